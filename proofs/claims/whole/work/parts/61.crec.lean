/-! The class: records. -/
section CR
variable {P : Nat × Nat} {fx : Nat → Prop} {mem : Nat → am_C} {K : Nat × Nat} {ad : Nat → Nat → Nat → Nat} {h : am_H} {S : sp}
theorem c_dadd (P : Nat × Nat) {h : am_H} {d e n N : Nat} {f : Nat → Int32} (hw : RW h d 2 5 e n N f) (hn : n < 20000) (k o p m v : Int32) : ∃ h' e' N' f', am_E P 6 0 [some (.ref d), some (.int k), some (.int o), some (.int p), some (.int m), some (.int v), none] [] h = some (none, h') ∧ RW h' d 2 5 e' (n + 1) N' f' ∧ (∀ q, q < n * 5 → f' q = f q) ∧ (f' (n * 5) = k ∧ f' (n * 5 + 1) = o ∧ f' (n * 5 + 2) = p ∧ f' (n * 5 + 3) = m ∧ f' (n * 5 + 4) = v) ∧ ((e' = e ∧ h'.1 = h.1 ∧ h'.2.1 = h.2.1) ∨ (e' = h.1 ∧ h'.1 = h.1 + 1 ∧ h'.2.1 = h.2.1 + 2 * ((n + 1) * 5))) ∧ (∀ a, a ≠ d → a ≠ e' → h'.2.2 a = h.2.2 a) := by
  obtain ⟨h1, e', N', f1, e1, w1, e2, e3, e4⟩ := c_addRow P hw hn
  have w2 := w1.set (upd f1 (n * 5 + 0) k)
  have w3 := w2.set (upd (upd f1 (n * 5 + 0) k) (n * 5 + 1) o)
  have w4 := w3.set (upd (upd (upd f1 (n * 5 + 0) k) (n * 5 + 1) o) (n * 5 + 2) p)
  have w5 := w4.set (upd (upd (upd (upd f1 (n * 5 + 0) k) (n * 5 + 1) o) (n * 5 + 2) p) (n * 5 + 3) m)
  have w6 := w5.set (upd (upd (upd (upd (upd f1 (n * 5 + 0) k) (n * 5 + 1) o) (n * 5 + 2) p) (n * 5 + 3) m) (n * 5 + 4) v)
  have s1 := c_set P w1 (i := n) (c := 0) (by omega) (by decide) k
  have s2 := c_set P w2 (i := n) (c := 1) (by omega) (by decide) o
  have s3 := c_set P w3 (i := n) (c := 2) (by omega) (by decide) p
  have s4 := c_set P w4 (i := n) (c := 3) (by omega) (by decide) m
  have s5 := c_set P w5 (i := n) (c := 4) (by omega) (by decide) v
  refine ⟨_, e', N', _, ?_, w6, fun q hq => ?_, ?_, e3, fun a ha hb => ?_⟩
  · have z0 : (0 : Int32) = nI 0 := rfl
    have z1 : (1 : Int32) = nI 1 := rfl
    have z2 : (2 : Int32) = nI 2 := rfl
    have z3 : (3 : Int32) = nI 3 := rfl
    have z4 : (4 : Int32) = nI 4 := rfl
    rw [← z0] at s1
    rw [← z1] at s2
    rw [← z2] at s3
    rw [← z3] at s4
    rw [← z4] at s5
    simp only [r6, cl_of hw.1, if_true, e1, Option.bind_some, Option.toList, List.nil_append, List.cons_append, cl_of w1.1, s1, cl_of w2.1, s2, cl_of w3.1, s3, cl_of w4.1, s4, cl_of w5.1, s5]
  · simp only [upd]
    rw [if_neg (by omega), if_neg (by omega), if_neg (by omega), if_neg (by omega), if_neg (by omega)]
    exact e2 q hq
  · simp [upd]
  · rw [ah_ne hb, ah_ne hb, ah_ne hb, ah_ne hb, ah_ne hb]
    exact e4 a ha hb
theorem sq_le (n : Nat) : sq n + 10 * (n + 1) ≤ sq (n + 1) ∧ sq n ≤ sq (n + 1) := by
  unfold sq
  have e : (n + 1 + 1) * (n + 1 + 1) = (n + 1) * (n + 1) + 2 * (n + 1) + 1 := by
    rw [Nat.add_mul, Nat.mul_add]
    omega
  rw [e]
  omega
theorem sp_app_4 (S : sp) (k o p m v : Int32) (i q : Nat) : (sp_app S k o p m v).2 4 i q = if i = S.1 1 0 0 ∧ q = 0 then k else if i = S.1 1 0 0 ∧ q = 1 then o else if i = S.1 1 0 0 ∧ q = 2 then p else if i = S.1 1 0 0 ∧ q = 3 then m else if i = S.1 1 0 0 ∧ q = 4 then v else S.2 4 i q := by
  simp only [sp_app, sN_2, sV_2, true_and]
  by_cases hi : i = S.1 1 0 0
  · simp only [hi, true_and]
    by_cases h0 : q = 0
    · simp [h0]
    · by_cases h1 : q = 1
      · simp [h1]
      · by_cases h2 : q = 2
        · simp [h2]
        · by_cases h3 : q = 3
          · simp [h3]
          · simp [h0, h1, h2, h3]
  · simp [hi]
theorem SO.app (e : Nat) (k o p m v : Int32) : SO P ad (u3 ad 6 0 0 e) S (sp_app S k o p m v) (fun a _ _ => a = 5 ∨ a = 6) := by
  intro a i j hl hN
  rcases k23 hl with rfl | rfl | rfl | rfl | rfl | rfl | rfl | rfl | rfl | rfl | rfl | rfl | rfl | rfl | rfl | rfl | rfl | rfl | rfl | rfl | rfl | rfl | rfl
  all_goals first
    | exact ⟨hl, rfl, fun c hc => hc⟩
    | exact ⟨hl, rfl, fun c hc => by refine ok22 ?_ ?_ ?_ ?_ hc <;> (intros; rfl)⟩
    | exact absurd (by simp) hN
/-- a record behind the others; only the disk's cells may move -/
theorem c_app (hv : CV P fx mem K ad h S) (hn : S.1 1 0 0 < 20000) (k o p m v : Int32) : ∃ h' e, am_E P 6 0 [some (.ref (ad 5 0 0)), some (.int k), some (.int o), some (.int p), some (.int m), some (.int v), none] [] h = some (none, h') ∧ CV P fx mem K (u3 ad 6 0 0 e) h' (sp_app S k o p m v) := by
  obtain ⟨N, f, hw, hf⟩ := hv.rwD (by omega)
  obtain ⟨h', e', N', f', e1, w', e2, e3, e4, e5⟩ := c_dadd P hw hn k o p m v
  refine ⟨h', e', e1, hv.upd (fun a _ _ => a = 5 ∨ a = 6) (SO.app e' k o p m v) ?_ (fun a i j h1 h2 hN => ?_) (fun a i j h1 _ _ => (hv.1 a i j h1).2.1) (fun a i j h1 hN => ?_) ?_ (fun a ha => ?_) hv.2.2.2.1 hv.2.2.2.2.1 ?_ ?_⟩
  · rcases e4 with ⟨_, b, _⟩ | ⟨_, b, _⟩ <;> omega
  · refine e5 _ (fun e => hN (Or.inl (hv.2.1 a i j 5 0 0 h1 ⟨rfl, rfl⟩ e).1)) (fun e => ?_)
    rcases e4 with ⟨b, _, _⟩ | ⟨b, _, _⟩
    · exact hN (Or.inr (hv.2.1 a i j 6 0 0 h1 ⟨rfl, rfl⟩ (e.trans b)).1)
    · have := (hv.1 a i j h1).1
      omega
  · obtain ⟨r1, r2, r3, r4, r5, r6, r7, r8, r9, r10⟩ := w'
    rcases hN with rfl | rfl
    · obtain ⟨rfl, rfl⟩ := h1
      exact ⟨r8, (hv.1 5 0 0 ⟨rfl, rfl⟩).2.1, r1⟩
    · obtain ⟨rfl, rfl⟩ := h1
      refine ⟨r9, ?_, N', f', r2, r4, r5, fun i q hi hq => ?_⟩
      · show ¬ fx e'
        rcases e4 with ⟨b, _, _⟩ | ⟨b, _, _⟩
        · rw [b]; exact (hv.1 6 0 0 ⟨rfl, rfl⟩).2.1
        · rw [b]; intro hx; have := (hv.2.2.1 _ hx).1; omega
      · rw [sp_app_4]
        have hi' : i < S.1 1 0 0 + 1 := hi
        by_cases hii : i = S.1 1 0 0
        · subst hii
          simp only [true_and]
          have : q = 0 ∨ q = 1 ∨ q = 2 ∨ q = 3 ∨ q = 4 := by omega
          rcases this with rfl | rfl | rfl | rfl | rfl
          · exact e3.1
          · exact e3.2.1
          · exact e3.2.2.1
          · exact e3.2.2.2.1
          · exact e3.2.2.2.2
        · simp only [hii, false_and, if_false]
          rw [e2 _ (by omega)]
          exact hf i q (by omega) hq
  · refine AJ.mv (L := lv S) hv.2.1 6 0 0 e' (fun a i j hl => Or.inl ?_) (fun a i j hl hn' => ?_)
    · rcases k23 hl with rfl | rfl | rfl | rfl | rfl | rfl | rfl | rfl | rfl | rfl | rfl | rfl | rfl | rfl | rfl | rfl | rfl | rfl | rfl | rfl | rfl | rfl | rfl <;> exact hl
    · intro e
      rcases e4 with ⟨b, _, _⟩ | ⟨b, _, _⟩
      · exact hn' (hv.2.1 a i j 6 0 0 hl ⟨rfl, rfl⟩ (e.trans b))
      · have := (hv.1 a i j hl).1
        omega
  · have hx := hv.2.2.1 a ha
    have n1 : a ≠ ad 5 0 0 := fun e => (hv.1 5 0 0 ⟨rfl, rfl⟩).2.1 (e ▸ ha)
    have n2 : a ≠ e' := by
      rcases e4 with ⟨b, _, _⟩ | ⟨b, _, _⟩
      · intro e; exact (hv.1 6 0 0 ⟨rfl, rfl⟩).2.1 (by rw [← b, ← e]; exact ha)
      · omega
    refine ⟨?_, by rw [e5 a n1 n2]; exact hx.2⟩
    rcases e4 with ⟨_, b, _⟩ | ⟨_, b, _⟩ <;> omega
  · have := hv.2.2.2.2.2.1
    show h'.1 ≤ K.1 + (S.1 1 0 0 + 1 + S.1 6 0 0 + S.1 6 1 0 + S.1 6 2 0)
    unfold w1 at this
    rcases e4 with ⟨_, b, _⟩ | ⟨_, b, _⟩ <;> omega
  · have := hv.2.2.2.2.2.2
    have q := sq_le (S.1 1 0 0)
    show h'.2.1 ≤ K.2 + (sq (S.1 1 0 0 + 1) + sq (S.1 6 0 0) + sq (S.1 6 1 0) + sq (S.1 6 2 0))
    unfold w2 at this
    rcases e4 with ⟨_, _, b⟩ | ⟨_, _, b⟩ <;> omega
theorem CW.app (hv : CW P fx mem K ad h S) (hn : S.1 1 0 0 < 20000) (k o p m v : Int32) : ∃ h', am_E P 6 0 [some (.ref (ad 5 0 0)), some (.int k), some (.int o), some (.int p), some (.int m), some (.int v), none] [] h = some (none, h') ∧ CW P fx mem K ad h' (sp_app S k o p m v) := by
  obtain ⟨ae, hv⟩ := hv
  obtain ⟨h', e, e1, e2⟩ := c_app hv hn k o p m v
  rw [jn_u3 ad ae (by decide)] at e2
  exact ⟨h', e1, _, e2⟩
/-- writeRecord -/
theorem c_rec (hv : CW P fx mem K ad h S) (h3 : S.1 0 0 0 ≤ 3) (hn : S.1 1 0 0 < 20000) (k o p m v : Int32) : ∃ h', am_E P 60 0 [some (.ref (ad 0 0 0)), some (.int k), some (.int o), some (.int p), some (.int m), some (.int v)] [] h = some (some (.int (if (sp_rec S k o p m v).1 = true then 1 else 0)), h') ∧ CW P fx mem K ad h' (sp_rec S k o p m v).2 := by
  obtain ⟨h1, e1, v1⟩ := c_act hv h3
  unfold sp_rec
  by_cases ha : (sp_act S).1 = true
  · rw [if_pos ha] at e1 ⊢
    obtain ⟨h2, e2, v2⟩ := v1.app (by rw [sa_N (by decide)]; exact hn) k o p m v
    refine ⟨h2, ?_, v2⟩
    have c1 : ¬ (1 : Int32) = 0 := by decide
    simp only [r60, cl_of hv.x, if_true, e1, Option.bind_some, Option.toList, List.nil_append, List.cons_append, if_neg c1, o9 v1.x, v1.cntD, e2, or_true]
  · rw [if_neg ha] at e1 ⊢
    refine ⟨h1, ?_, v1⟩
    simp only [r60, cl_of hv.x, if_true, e1, Option.bind_some, Option.toList, List.nil_append, List.cons_append, true_or]
    simp
end CR
