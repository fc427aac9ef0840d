/-! The model: a record is written; rows, state and mark of a part by the records. -/
def q_rows (S : sp) (o p : Int32) : Nat → Nat
  | 0 => 0
  | i + 1 => q_rows S o p i + (if S.2 4 i 0 = 0 ∧ S.2 4 i 1 = o ∧ S.2 4 i 2 = p then 1 else 0)
def q_st (S : sp) (o p : Int32) : Nat → Int32
  | 0 => 0
  | i + 1 => if S.2 4 i 1 = o ∧ S.2 4 i 2 = p then (if S.2 4 i 0 = 1 then 1 else if S.2 4 i 0 = 3 then 2 else if S.2 4 i 0 = 4 then 3 else q_st S o p i) else q_st S o p i
def q_mk (S : sp) (o p : Int32) : Nat → Option Int32
  | 0 => none
  | i + 1 => match q_mk S o p i with
    | some m => some m
    | none => if S.2 4 i 0 = 1 ∧ S.2 4 i 1 = o ∧ S.2 4 i 2 = p then some (S.2 4 i 3) else none
theorem q_mk_mono (S : sp) (o p m : Int32) {i : Nat} (h : q_mk S o p i = some m) : ∀ j, q_mk S o p (i + j) = some m := by
  intro j
  induction j with
  | zero => exact h
  | succ j ih =>
    show q_mk S o p (i + j + 1) = some m
    unfold q_mk
    rw [ih]
section MR
variable {M n s : Nat} {mem : Nat → am_C} {h : am_H} {S : sp} {pd : Int32}
theorem k_app (P : Nat × Nat) (hs : MS M n s mem pd h S) (hn : S.1 1 0 0 < 4000) (k o p a v : Int32) : ∃ h', am_E P 78 9 [some (.ref M), some (.int k), some (.int o), some (.int p), some (.int a), some (.int v)] [] h = some (some (.int 1), h') ∧ MS M n s mem pd h' (sp_app S k o p a v) := by
  obtain ⟨f, F, hv, ⟨f1, f2, f3, f4, f5, f6, f7, f8, f9, f10⟩, hF, hpd⟩ := hs
  generalize hr : S.1 1 0 0 = r at *
  have v1 := hv.a 8 (by decide) (by decide) r k
  have v2 := v1.a 9 (by decide) (by decide) r o
  have v3 := v2.a 10 (by decide) (by decide) r p
  have v4 := v3.a 11 (by decide) (by decide) r a
  have v5 := v4.a 12 (by decide) (by decide) r v
  have v6 := v5.p 8 (nI (r + 1))
  refine ⟨_, ?_, _, _, v6, ?_, ?_, by simpa [va_up] using hpd⟩
  · simp only [r78, hv.g, mo_g, Option.bind_some, f2, hv.st 8 (by decide) (by decide) (q := r) hn]
    simp only [r78, v1.g, mo_g, Option.bind_some, f2, v1.st 9 (by decide) (by decide) (q := r) hn]
    simp only [r78, v2.g, mo_g, Option.bind_some, f2, v2.st 10 (by decide) (by decide) (q := r) hn]
    simp only [r78, v3.g, mo_g, Option.bind_some, f2, v3.st 11 (by decide) (by decide) (q := r) hn]
    simp only [r78, v4.g, mo_g, Option.bind_some, f2, v4.st 12 (by decide) (by decide) (q := r) hn]
    simp only [r78, v5.g, mo_g, Option.bind_some, f2, v5.w 8 (by decide), nI_1, mo_s]
    simp [r78]
  · simp [m_f, m_l, va_up, sp_app, sN_1, sN_2, sV_1, sV_2, hr, f1, f3, f4, f5, f6, f7, f8, f9, f10]
  · obtain ⟨g1, g2, g3, g4, g5, g6, g7⟩ := hF
    refine ⟨?_, ?_, fun i hi => ?_, ?_, ?_, ?_, ?_⟩
    · simpa [va_up, sp_app, sN_1, sN_2, sV_1, sV_2] using g1
    · simpa [va_up, sp_app, sN_1, sN_2, sV_1, sV_2] using g2
    · by_cases hi2 : i = r
      · subst hi2
        simp [va_up, upd, sp_app, sN_1, sN_2, sV_1, sV_2, hr]
      · have hi3 : i < r := by
          simp [sp_app, sN_1, hr] at hi
          omega
        have := g3 i (by omega)
        simpa [va_up, upd, sp_app, sN_1, sN_2, sV_1, sV_2, hr, hi2] using this
    · simpa [va_up, sp_app, sN_1, sN_2, sV_1, sV_2] using g4
    · simpa [va_up, sp_app, sN_1, sN_2, sV_1, sV_2] using g5
    · simpa [va_up, sp_app, sN_1, sN_2, sV_1, sV_2] using g6
    · simpa [va_up, sp_app, sN_1, sN_2, sV_1, sV_2] using g7
theorem sp_act_nr (S : sp) : (sp_act S).2.1 1 0 0 = S.1 1 0 0 := by
  unfold sp_act
  split
  · simp [sE_1, sV_1]
  · simp [sV_1]
theorem MS.c (hs : MS M n s mem pd h S) : am_cls h M = some 9 := by
  obtain ⟨f, F, hv, -⟩ := hs
  exact hv.c
theorem k_record (P : Nat × Nat) (hs : MS M n s mem pd h S) (hl : S.2 0 3 0 = 0 ∨ 0 < S.2 0 3 0) (hn : S.1 1 0 0 < 4000) (k o p a v : Int32) : ∃ h', am_E P 78 0 [some (.ref M), some (.int k), some (.int o), some (.int p), some (.int a), some (.int v)] [] h = some (some (.int (if (sp_rec S k o p a v).1 = true then 1 else 0)), h') ∧ MS M n s mem pd h' (sp_rec S k o p a v).2 := by
  obtain ⟨h1, e1, s1⟩ := k_act P hs hl
  cases hb : (sp_act S).1 with
  | false =>
    refine ⟨h1, ?_, by simpa [sp_rec, hb] using s1⟩
    simp only [r78, hs.c, if_true, e1, hb, Option.bind_some]
    simp [r78, sp_rec, hb]
  | true =>
    obtain ⟨h2, e2, s2⟩ := k_app P s1 (by rw [sp_act_nr]; exact hn) k o p a v
    refine ⟨h2, ?_, by simpa [sp_rec, hb] using s2⟩
    simp only [r78, hs.c, if_true, e1, hb, Option.bind_some] at e2 ⊢
    simp [r78, sp_rec, hb, e2]
theorem k_rowsOf (P : Nat × Nat) (hs : MS M n s mem pd h S) (hn : S.1 1 0 0 < 4000) (o p : Int32) : am_E P 79 0 [some (.ref M), some (.int o), some (.int p), none, none] [] h = some (some (.int (nI (q_rows S o p (S.1 1 0 0)))), h) := by
  obtain ⟨f, F, hv, ⟨f1, f2, -⟩, hF, -⟩ := hs
  have loop : ∀ k r, r + k = S.1 1 0 0 → am_E P 79 5 [some (.ref M), some (.int o), some (.int p), some (.int (nI (q_rows S o p r))), some (.int (nI r))] [] h = some (some (.int (nI (q_rows S o p (S.1 1 0 0)))), h) := by
    intro k
    induction k with
    | zero =>
      intro r hr
      obtain rfl : r = S.1 1 0 0 := by omega
      rw [hd79_5]
      simp [r79, hv.g, mo_g, f2]
    | succ k ih =>
      intro r hr
      have c : ¬ nI (S.1 1 0 0) ≤ nI r := nI_ge (by omega) (by omega)
      obtain ⟨g1, g2, g3, -⟩ := hF.2.2.1 r (by omega)
      have := ih (r + 1) (by omega)
      have q1 : r < 4000 := by omega
      rw [hd79_5]
      simp only [r79, hv.g, mo_g, f2, Option.bind_some, if_neg c, hv.ld 8 (by decide) (by decide) (q := r) q1, hv.ld 9 (by decide) (by decide) (q := r) q1, hv.ld 10 (by decide) (by decide) (q := r) q1, g1, g2, g3, nI_1]
      rw [show q_rows S o p (r + 1) = q_rows S o p r + (if S.2 4 r 0 = 0 ∧ S.2 4 r 1 = o ∧ S.2 4 r 2 = p then 1 else 0) from rfl] at this
      by_cases c1 : S.2 4 r 0 = 0
      · by_cases c2 : S.2 4 r 1 = o
        · by_cases c3 : S.2 4 r 2 = p
          · simp only [c1, c2, c3, and_self, if_true, ← nI_1] at this ⊢
            exact this
          · simp only [c1, c2, c3, and_false, if_true, if_false, Nat.add_zero, Int32.add_zero] at this ⊢
            exact this
        · simp only [c1, c2, false_and, and_false, if_true, if_false, Nat.add_zero, Int32.add_zero] at this ⊢
          exact this
      · simp only [c1, false_and, if_false, Nat.add_zero, Int32.add_zero] at this ⊢
        exact this
  simp only [r79]
  exact loop _ 0 (Nat.zero_add _)
theorem k_stateOf (P : Nat × Nat) (hs : MS M n s mem pd h S) (hn : S.1 1 0 0 < 4000) (o p : Int32) : am_E P 80 0 [some (.ref M), some (.int o), some (.int p), none, none] [] h = some (some (.int (q_st S o p (S.1 1 0 0))), h) := by
  obtain ⟨f, F, hv, ⟨f1, f2, -⟩, hF, -⟩ := hs
  have loop : ∀ k r, r + k = S.1 1 0 0 → am_E P 80 5 [some (.ref M), some (.int o), some (.int p), some (.int (q_st S o p r)), some (.int (nI r))] [] h = some (some (.int (q_st S o p (S.1 1 0 0))), h) := by
    intro k
    induction k with
    | zero =>
      intro r hr
      obtain rfl : r = S.1 1 0 0 := by omega
      rw [hd80_5]
      simp [r80, hv.g, mo_g, f2]
    | succ k ih =>
      intro r hr
      have c : ¬ nI (S.1 1 0 0) ≤ nI r := nI_ge (by omega) (by omega)
      obtain ⟨g1, g2, g3, -⟩ := hF.2.2.1 r (by omega)
      have := ih (r + 1) (by omega)
      have q1 : r < 4000 := by omega
      rw [hd80_5]
      simp only [r80, hv.g, mo_g, f2, Option.bind_some, if_neg c, hv.ld 8 (by decide) (by decide) (q := r) q1, hv.ld 9 (by decide) (by decide) (q := r) q1, hv.ld 10 (by decide) (by decide) (q := r) q1, g1, g2, g3, nI_1]
      rw [show q_st S o p (r + 1) = if S.2 4 r 1 = o ∧ S.2 4 r 2 = p then (if S.2 4 r 0 = 1 then 1 else if S.2 4 r 0 = 3 then 2 else if S.2 4 r 0 = 4 then 3 else q_st S o p r) else q_st S o p r from rfl] at this
      by_cases c2 : S.2 4 r 1 = o
      · by_cases c3 : S.2 4 r 2 = p
        · by_cases d1 : S.2 4 r 0 = 1
          · simp only [c2, c3, d1, and_self, if_true] at this ⊢
            exact this
          · by_cases d2 : S.2 4 r 0 = 3
            · have d1 : ¬ (3 : Int32) = 1 := by decide
              simp only [c2, c3, d1, d2, and_self, if_true, if_false] at this ⊢
              exact this
            · by_cases d3 : S.2 4 r 0 = 4
              · have d1 : ¬ (4 : Int32) = 1 := by decide
                have d2 : ¬ (4 : Int32) = 3 := by decide
                simp only [c2, c3, d1, d2, d3, and_self, if_true, if_false] at this ⊢
                exact this
              · simp only [c2, c3, d1, d2, d3, and_self, if_true, if_false] at this ⊢
                exact this
        · simp only [c2, c3, and_false, if_true, if_false] at this ⊢
          exact this
      · simp only [c2, false_and, if_false] at this ⊢
        exact this
  simp only [r80]
  exact loop _ 0 (Nat.zero_add _)
theorem k_markOf (P : Nat × Nat) (hs : MS M n s mem pd h S) (hn : S.1 1 0 0 < 4000) (o p : Int32) : am_E P 81 0 [some (.ref M), some (.int o), some (.int p), none] [] h = some (some (.int ((q_mk S o p (S.1 1 0 0)).getD (-6))), h) := by
  obtain ⟨f, F, hv, ⟨f1, f2, -⟩, hF, -⟩ := hs
  have loop : ∀ k r, r + k = S.1 1 0 0 → q_mk S o p r = none → am_E P 81 2 [some (.ref M), some (.int o), some (.int p), some (.int (nI r))] [] h = some (some (.int ((q_mk S o p (S.1 1 0 0)).getD (-6))), h) := by
    intro k
    induction k with
    | zero =>
      intro r hr hq
      obtain rfl : r = S.1 1 0 0 := by omega
      rw [hd81_2]
      simp [r81, hv.g, mo_g, f2, hq]
    | succ k ih =>
      intro r hr hq
      have c : ¬ nI (S.1 1 0 0) ≤ nI r := nI_ge (by omega) (by omega)
      obtain ⟨g1, g2, g3, g4, -⟩ := hF.2.2.1 r (by omega)
      have ih := ih (r + 1) (by omega)
      have q1 : r < 4000 := by omega
      rw [hd81_2]
      simp only [r81, hv.g, mo_g, f2, Option.bind_some, if_neg c, hv.ld 8 (by decide) (by decide) (q := r) q1, hv.ld 9 (by decide) (by decide) (q := r) q1, hv.ld 10 (by decide) (by decide) (q := r) q1, hv.ld 11 (by decide) (by decide) (q := r) q1, g1, g2, g3, g4, nI_1]
      have hst : q_mk S o p (r + 1) = if S.2 4 r 0 = 1 ∧ S.2 4 r 1 = o ∧ S.2 4 r 2 = p then some (S.2 4 r 3) else none := by
        conv => lhs; unfold q_mk
        rw [hq]
      by_cases c1 : S.2 4 r 0 = 1
      · by_cases c2 : S.2 4 r 1 = o
        · by_cases c3 : S.2 4 r 2 = p
          · rw [if_pos ⟨c1, c2, c3⟩] at hst
            have h9 := q_mk_mono S o p _ hst k
            rw [show r + 1 + k = S.1 1 0 0 by omega] at h9
            simp only [c1, c2, c3, if_true, h9, Option.getD_some]
          · rw [if_neg (fun q => c3 q.2.2)] at hst
            simp only [c1, c2, c3, if_true, if_false]
            exact ih hst
        · rw [if_neg (fun q => c2 q.2.1)] at hst
          simp only [c1, c2, if_true, if_false]
          exact ih hst
      · rw [if_neg (fun q => c1 q.1)] at hst
        simp only [c1, if_false]
        exact ih hst
  simp only [r81]
  exact loop _ 0 (Nat.zero_add _) rfl
end MR
