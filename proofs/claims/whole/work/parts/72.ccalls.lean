/-! The class: calls that change something, 1. -/
/-- the class's object at X -/
def CZ (P : Nat × Nat) (fx : Nat → Prop) (mem : Nat → am_C) (K : Nat × Nat) (X : Nat) (h : am_H) (S : sp) : Prop := ∃ ad, ad 0 0 0 = X ∧ CW P fx mem K ad h S
theorem key_10 (k : Int32) : 10 ≤ k ↔ 9 < k := by
  rw [i_le, i_lt]
  have z1 : (10 : Int32).toInt = 10 := rfl
  have z2 : (9 : Int32).toInt = 9 := rfl
  omega
theorem goes_le2 {o : Nat} {m : Int32} : ∀ (c p w : Nat) (S : sp), JN S → o < S.1 0 0 0 → p + c = S.1 5 o 0 → S.2 0 0 0 < m → ∀ x, (sp_goes o m c p w S).1 = some x → x ≤ w + 20 * c := by
  intro c
  induction c with
  | zero =>
    intro p w S hj ho hpc hm x hx
    have : some w = some x := hx
    simp at this
    omega
  | succ c ih =>
    intro p w S hj ho hpc hm x hx
    have hp : p < S.1 5 o 0 := by omega
    have h20 : S.1 10 o p ≤ 20 := (hj.1.2.2.2.2.1 o p ho hp).2.1
    unfold sp_goes at hx
    split at hx
    · rename_i hc
      split at hx
      · rename_i ht
        have hj1 := hj.goes1 ho hp hc.1 (Int32.lt_of_lt_of_le hm hc.2) ht
        have := ih (p + 1) (w + S.1 10 o p) _ hj1 (by show o < (sp_rec S 4 (nI o) (nI p) (-6) (-6)).2.1 0 0 0; rw [sr_N (by decide) (by decide)]; exact ho) (by show p + 1 + c = (sp_rec S 4 (nI o) (nI p) (-6) (-6)).2.1 5 o 0; rw [sr_N (by decide) (by decide)]; omega) (by show (sp_rec S 4 (nI o) (nI p) (-6) (-6)).2.2 0 0 0 < m; rw [sr_V0 (by decide) (by decide) (by decide)]; exact hm) x hx
        omega
      · cases hx
    · have := ih (p + 1) w S hj ho (by omega) hm x hx
      omega
theorem giveL_le {m : Int32} : ∀ (c o w : Nat) (S : sp), JN S → o + c = S.1 0 0 0 → S.2 0 0 0 < m → (∀ b, S.1 4 b 0 ≤ 20) → ∀ x, (sp_giveL m c o w S).1 = some x → x ≤ w + 30000 * c := by
  intro c
  induction c with
  | zero =>
    intro o w S hj hoc hm h4 x hx
    have : some w = some x := hx
    simp at this
    omega
  | succ c ih =>
    intro o w S hj hoc hm h4 x hx
    have h3 : S.1 0 0 0 ≤ 3 := hj.1.2.2.1
    have hg : S.1 5 o 0 < 1000 := hj.1.1.2.2.1 o (by omega)
    obtain ⟨j1, j2, -⟩ := JN.goes (o := o) (m := m) (S.1 5 o 0) 0 0 S hj (by omega) (Nat.zero_add _) hm
    have hgl := goes_le2 (o := o) (m := m) (S.1 5 o 0) 0 0 S hj (by omega) (Nat.zero_add _) hm
    unfold sp_giveL at hx
    generalize sp_goes o m (S.1 5 o 0) 0 0 S = R at *
    obtain ⟨a, T⟩ := R
    cases a with
    | none => cases hx
    | some y =>
      have hy := hgl y rfl
      simp only at j1 j2 hx
      have h4T := fun b => Nat.le_trans (j2.2.1 b) (h4 b)
      have := ih (o + 1) (w + (y + T.1 4 o 0)) (sN T 4 o 0 0) (j1.op0 o) (by show o + 1 + c = T.1 0 0 0; rw [j2.1 0 0 0 (by omega)]; omega) (by show T.2 0 0 0 < m; rw [j2.2.2.2.2.2.2.2.2.2.2.2.1 0 0 (by decide) (by decide) (by decide)]; exact hm) (fun b => by
        rw [sN_1]
        split
        · omega
        · exact h4T b) x hx
      have := h4T o
      omega
section CC1
variable {P : Nat × Nat} {fx : Nat → Prop} {mem : Nat → am_C} {K : Nat × Nat} {ad : Nat → Nat → Nat → Nat} {h : am_H} {S : sp} {X c : Nat}
theorem CZ.up (hz : CZ P fx mem K X h S) : CZ P fx mem (K.1 + 100, K.2 + 10000) X h S := by
  obtain ⟨ad, e, hv⟩ := hz
  exact ⟨ad, e, hv.kup (by show K.1 ≤ K.1 + 100; omega) (by show K.2 ≤ K.2 + 10000; omega)⟩
theorem CW.z (hv : CW P fx mem K ad h S) (e : ad 0 0 0 = X) : CZ P fx mem (K.1 + 100, K.2 + 10000) X h S := CZ.up ⟨ad, e, hv⟩
theorem cc_show (hz : CZ P fx mem K X h S) (hk : KI S c) : ∃ h', am_E P 37 0 [some (.ref X)] [] h = some (some (.int (sp_show S).1), h') ∧ CZ P fx mem (K.1 + 100, K.2 + 10000) X h' (sp_show S).2 := by
  obtain ⟨ad, rfl, hv⟩ := hz
  unfold sp_show
  by_cases hd : S.2 0 2 0 = 0
  · rw [if_neg (not_not_intro hd)]
    obtain ⟨h1, e1, v1⟩ := c_shown hv hk.1.1
    refine ⟨h1, ?_, v1.z rfl⟩
    simp only [r37, o9 hv.x, Option.bind_some, if_pos hd, if_true, e1, Option.toList, List.nil_append, List.cons_append]
  · rw [if_pos hd]
    refine ⟨h, ?_, hv.z rfl⟩
    simp only [r37, o9 hv.x, Option.bind_some, if_neg hd]
theorem cc_bar (hv : CW P fx mem K ad h S) (hP : fx P.1) (hk : KI S c) (hc : c < 100) (m : Int32) : ∃ h' ad', am_E P 63 0 [some (.ref (ad 0 0 0)), some (.int m), none, none, none, none] [] h = some (some (.int (sp_bar S m).1), h') ∧ (∀ k i j, k ≠ 20 → ad' k i j = ad k i j) ∧ CW P fx mem (K.1 + 6, K.2 + 6051) ad' h' (sp_bar S m).2 :=
  c_bar hv hP hk.1.1.1.2.2.1 hk.1.2.2.2.2.1 hk.1.1.1.1.2.2.1 (by have := hk.1.1.nr; omega) (by have := hk.1.2.2.1; omega) m
theorem cc_barrier (hz : CZ P fx mem K X h S) (hP : fx P.1) (hk : KI S c) (hc : c < 100) (m : Int32) : ∃ h', am_E P 35 0 [some (.ref X), some (.int m), none] [] h = some (some (.int (sp_barrier S m).1), h') ∧ CZ P fx mem (K.1 + 100, K.2 + 10000) X h' (sp_barrier S m).2 := by
  obtain ⟨ad, rfl, hv⟩ := hz
  have kb := c_bars hv hk hc m
  unfold sp_barrier
  by_cases hb : sp_bars S m ≠ 0
  · rw [if_pos hb]
    refine ⟨h, ?_, hv.z rfl⟩
    simp only [r35, cl_of hv.x, if_true, kb, Option.bind_some, Option.toList, List.nil_append, List.cons_append, if_neg hb]
  · rw [if_neg hb]
    have hb0 : sp_bars S m = 0 := Classical.byContradiction hb
    obtain ⟨h1, ad1, e1, e2, v1⟩ := cc_bar hv hP hk hc m
    refine ⟨h1, ?_, ad1, e2 0 0 0 (by decide), v1.kup (by show K.1 + 6 ≤ K.1 + 100; omega) (by show K.2 + 6051 ≤ K.2 + 10000; omega)⟩
    simp only [r35, cl_of hv.x, if_true, kb, Option.bind_some, Option.toList, List.nil_append, List.cons_append, hb0, e1]
/-- keepMark -/
theorem c_keepM (hv : CW P fx mem K ad h S) (hj : JN S) {k m : Int32} (hk : k = 2 ∨ k = 5) : ∃ h', am_E P 65 0 [some (.ref (ad 0 0 0)), some (.int k), some (.int m)] [] h = some (some (.int (if (sp_rec S k (-6) (-6) m (-6)).1 = true then 1 else 0)), h') ∧ CW P fx mem K ad h' (if (sp_rec S k (-6) (-6) m (-6)).1 = true then (if k = 5 then sV (sV (sp_rec S k (-6) (-6) m (-6)).2 0 0 0 m) 0 1 0 1 else sV (sp_rec S k (-6) (-6) m (-6)).2 0 0 0 m) else (sp_rec S k (-6) (-6) m (-6)).2) := by
  obtain ⟨h1, e1, v1⟩ := c_rec hv hj.1.2.2.1 (by have := hj.nr; omega) k (-6) (-6) m (-6)
  have c01 : ¬ (1 : Int32) = 0 := by decide
  by_cases ht : (sp_rec S k (-6) (-6) m (-6)).1 = true
  · rw [if_pos ht] at e1 ⊢
    rw [if_pos ht]
    generalize (sp_rec S k (-6) (-6) m (-6)).2 = T at *
    have v2 := v1.put 0 0 0 (fun _ => rfl) ⟨rfl, rfl⟩ (S' := sV T 0 0 0 m) (fun _ => SO.x 0 (by decide) m) (c := ac_O 8 [.ref (ad 1 0 0), .ref (ad 3 0 0), .ref (ad 5 0 0), .ref (ad 7 0 0), .int m, .int (T.2 0 1 0), .int (T.2 0 2 0), .int (T.2 0 3 0), .int (T.2 0 4 0)]) (fun _ => rfl) rfl rfl
    rcases hk with rfl | rfl
    · rw [if_neg (by decide)]
      have c2 : ¬ (2 : Int32) = 5 := by decide
      refine ⟨_, ?_, v2⟩
      simp only [r65, cl_of hv.x, if_true, e1, Option.bind_some, Option.toList, List.nil_append, List.cons_append, if_neg c01, o9 v1.x, if_neg c2, or_true]
    · rw [if_pos rfl]
      have v3 := v2.put 0 0 0 (fun _ => rfl) ⟨rfl, rfl⟩ (S' := sV (sV T 0 0 0 m) 0 1 0 1) (fun _ => SO.x 1 (by decide) 1) (c := ac_O 8 [.ref (ad 1 0 0), .ref (ad 3 0 0), .ref (ad 5 0 0), .ref (ad 7 0 0), .int m, .int 1, .int (T.2 0 2 0), .int (T.2 0 3 0), .int (T.2 0 4 0)]) (fun _ => rfl) rfl rfl
      refine ⟨_, ?_, v3⟩
      simp only [r65, cl_of hv.x, if_true, e1, Option.bind_some, Option.toList, List.nil_append, List.cons_append, if_neg c01, o9 v1.x, o9 (ah_same h1 (ad 0 0 0) _), or_true]
  · rw [if_neg ht] at e1 ⊢
    rw [if_neg ht]
    refine ⟨h1, ?_, v1⟩
    simp only [r65, cl_of hv.x, if_true, e1, Option.bind_some, Option.toList, List.nil_append, List.cons_append, true_or]
theorem cc_keep (hz : CZ P fx mem K X h S) (hk : KI S c) (hc : c < 100) (m : Int32) : ∃ h', am_E P 36 0 [some (.ref X), some (.int m)] [] h = some (some (.int (sp_keep S m).1), h') ∧ CZ P fx mem (K.1 + 100, K.2 + 10000) X h' (sp_keep S m).2 := by
  obtain ⟨ad, rfl, hv⟩ := hz
  have hh := c_bhas hv (by have := hk.1.2.2.1; omega) m
  have c01 : ¬ (1 : Int32) = 0 := by decide
  unfold sp_keep
  by_cases hq : q_bh S m (S.1 2 0 0) = false ∨ m ≤ S.2 0 0 0
  · rw [if_pos hq]
    refine ⟨h, ?_, hv.z rfl⟩
    by_cases hm : m ≤ S.2 0 0 0
    · simp only [r36, o9 hv.x, Option.bind_some, if_pos hm]
    · have hb : q_bh S m (S.1 2 0 0) = false := hq.resolve_right hm
      rw [hb] at hh
      simp only [r36, o9 hv.x, Option.bind_some, if_neg hm, o3 hv.ba, if_true, hh, Option.toList, List.nil_append, List.cons_append, Bool.false_eq_true, if_false]
  · rw [if_neg hq]
    have hm : ¬ m ≤ S.2 0 0 0 := fun e => hq (Or.inr e)
    have hb : q_bh S m (S.1 2 0 0) = true := by
      cases hx : q_bh S m (S.1 2 0 0) with
      | true => rfl
      | false => exact absurd (Or.inl hx) hq
    rw [if_pos hb] at hh
    have hmm := hk.keepQ hq
    by_cases hd : S.2 0 2 0 = 0
    · rw [if_neg (not_not_intro hd)]
      obtain ⟨h1, e1, v1⟩ := c_keepM hv hk.1.1 (k := 2) (m := m) (Or.inl rfl)
      by_cases ht : (sp_rec S 2 (-6) (-6) m (-6)).1 = true
      · rw [if_pos ht, if_neg (by decide)] at v1
        rw [if_pos ht] at e1 ⊢
        have hk1 := hk.mono.kept (k := 2) (by omega) (by have := hk.1.2.1; omega) (Or.inl rfl) hmm.1 hmm.2.2 ht (Or.inl ⟨rfl, rfl⟩)
        obtain ⟨h2, e2, v2⟩ := c_shown v1 hk1.1.1
        refine ⟨h2, ?_, v2.z rfl⟩
        simp only [r36, o9 hv.x, Option.bind_some, if_neg hm, o3 hv.ba, if_true, hh, Option.toList, List.nil_append, List.cons_append, if_neg c01, if_pos hd, e1, cl_of v1.x, e2]
      · rw [if_neg ht] at v1 e1 ⊢
        refine ⟨h1, ?_, v1.z rfl⟩
        simp only [r36, o9 hv.x, Option.bind_some, if_neg hm, o3 hv.ba, if_true, hh, Option.toList, List.nil_append, List.cons_append, if_neg c01, if_pos hd, e1]
    · rw [if_pos hd]
      refine ⟨h, ?_, hv.z rfl⟩
      simp only [r36, o9 hv.x, Option.bind_some, if_neg hm, o3 hv.ba, if_true, hh, Option.toList, List.nil_append, List.cons_append, if_neg c01, if_neg hd]
theorem cc_end (hz : CZ P fx mem K X h S) (hP : fx P.1) (hk : KI S c) (hc : c < 99) (m : Int32) : ∃ h', am_E P 39 0 [some (.ref X), some (.int m), none] [] h = some (some (.int (sp_end S m).1), h') ∧ CZ P fx mem (K.1 + 100, K.2 + 10000) X h' (sp_end S m).2 := by
  obtain ⟨ad, rfl, hv⟩ := hz
  have kb := c_bars hv hk (by omega) m
  have c01 : ¬ (1 : Int32) = 0 := by decide
  unfold sp_end
  by_cases hb : sp_bars S m ≠ 0
  · rw [if_pos hb]
    refine ⟨h, ?_, hv.z rfl⟩
    simp only [r39, cl_of hv.x, if_true, kb, Option.bind_some, Option.toList, List.nil_append, List.cons_append, if_neg hb]
  · rw [if_neg hb]
    have hb0 : sp_bars S m = 0 := Classical.byContradiction hb
    obtain ⟨h1, ad1, e1, e2, v1⟩ := cc_bar hv hP hk (by omega) m
    obtain ⟨q1, q2, q3, q4, q5⟩ := hk.bar (by omega) hb0
    have ea : ad1 0 0 0 = ad 0 0 0 := e2 0 0 0 (by decide)
    have kl : ∀ {hx Sx}, CW P fx mem (K.1 + 6, K.2 + 6051) ad1 hx Sx → CZ P fx mem (K.1 + 100, K.2 + 10000) (ad 0 0 0) hx Sx := fun v => ⟨ad1, ea, v.kup (by show K.1 + 6 ≤ K.1 + 100; omega) (by show K.2 + 6051 ≤ K.2 + 10000; omega)⟩
    by_cases hn : (sp_bar S m).1 < 0
    · rw [if_pos hn]
      refine ⟨h1, ?_, kl v1⟩
      simp only [r39, cl_of hv.x, if_true, kb, Option.bind_some, Option.toList, List.nil_append, List.cons_append, hb0, e1, if_pos (q5 hn)]
    · rw [if_neg hn]
      have hn5 : ¬ (sp_bar S m).1 = -5 := fun e => hn (by rw [e]; decide)
      obtain ⟨h2, e3, v2⟩ := c_keepM v1 q1.1.1 (k := 5) (m := m) (Or.inr rfl)
      have x1 := v1.x
      rw [ea] at e3 x1
      by_cases ht : (sp_rec (sp_bar S m).2 5 (-6) (-6) m (-6)).1 = true
      · rw [if_pos ht, if_pos rfl] at v2
        rw [if_pos ht] at e3 ⊢
        have hkT := q1.kept (by omega) (by omega) (Or.inr rfl) (by rw [q4]; exact (hk.1.bars_lt hb0).1) (bars_0 hb0).2.1 ht (Or.inr ⟨rfl, rfl⟩)
        obtain ⟨h3, e4, v3⟩ := c_shown v2 hkT.1.1
        have x2 := v2.x
        rw [ea] at e4 x2
        refine ⟨h3, ?_, kl v3⟩
        simp only [r39, cl_of hv.x, if_true, kb, Option.bind_some, Option.toList, List.nil_append, List.cons_append, hb0, e1, if_neg hn5, cl_of x1, e3, if_neg c01, cl_of x2, e4]
      · rw [if_neg ht] at v2 e3 ⊢
        refine ⟨h2, ?_, kl v2⟩
        simp only [r39, cl_of hv.x, if_true, kb, Option.bind_some, Option.toList, List.nil_append, List.cons_append, hb0, e1, if_neg hn5, cl_of x1, e3]
theorem cc_give (hz : CZ P fx mem K X h S) (hk : KI S c) (hc : c < 100) (m : Int32) : ∃ h', am_E P 38 0 [some (.ref X), some (.int m), none] [] h = some (some (.int (sp_giveQ S m).1), h') ∧ CZ P fx mem (K.1 + 100, K.2 + 10000) X h' (sp_giveQ S m).2 := by
  obtain ⟨ad, rfl, hv⟩ := hz
  have c01 : ¬ (1 : Int32) = 0 := by decide
  unfold sp_giveQ
  by_cases hq : m < 0 ∨ 1000000 < m ∨ m ≤ S.2 0 0 0
  · rw [if_pos hq]
    refine ⟨h, ?_, hv.z rfl⟩
    by_cases h1 : m < 0 ∨ 1000000 < m
    · simp only [r38, c_isMark, if_pos h1, Option.bind_some, Option.toList, List.nil_append, List.cons_append, if_true]
    · have hm : ¬ S.2 0 0 0 < m := by
        rcases hq with e | e | e
        · exact absurd (Or.inl e) h1
        · exact absurd (Or.inr e) h1
        · exact Int32.not_lt.mpr e
      simp only [r38, c_isMark, if_neg h1, Option.bind_some, Option.toList, List.nil_append, List.cons_append, if_neg c01, o9 hv.x, if_neg hm]
  · rw [if_neg hq]
    have h1 : ¬ (m < 0 ∨ 1000000 < m) := by rintro (e | e); exact hq (Or.inl e); exact hq (Or.inr (Or.inl e))
    have hm : S.2 0 0 0 < m := Int32.not_le.mp (fun e => hq (Or.inr (Or.inr e)))
    by_cases hd : S.2 0 2 0 = 0
    · rw [if_neg (not_not_intro hd)]
      obtain ⟨h2, e2, v2⟩ := c_giveF hv hk.1.1 hm
      obtain ⟨j1, j2, -⟩ := JN.giveL (m := m) (S.1 0 0 0) 0 0 S hk.1.1 (Nat.zero_add _) hm
      unfold sp_give
      have hb : ∀ x T, sp_giveL m (S.1 0 0 0) 0 0 S = (some x, T) → x < 2 ^ 31 := fun x T e => by
        have h3 : S.1 0 0 0 ≤ 3 := hk.1.1.1.2.2.1
        have := giveL_le (m := m) (S.1 0 0 0) 0 0 S hk.1.1 (Nat.zero_add _) hm hk.1.2.2.2.2.1 x (by rw [e])
        omega
      generalize sp_giveL m (S.1 0 0 0) 0 0 S = R at *
      obtain ⟨a, T⟩ := R
      cases a with
      | none =>
        refine ⟨h2, ?_, v2.z rfl⟩
        have e2 : am_E P 69 0 [some (.ref (ad 0 0 0)), some (.int m), none, none, none, none] [] h = some (some (.int (-5)), h2) := e2
        simp only [r38, c_isMark, if_neg h1, Option.bind_some, Option.toList, List.nil_append, List.cons_append, if_neg c01, o9 hv.x, if_pos hm, if_pos hd, if_true, e2]
      | some x =>
        have e2 : am_E P 69 0 [some (.ref (ad 0 0 0)), some (.int m), none, none, none, none] [] h = some (some (.int (nI x)), h2) := e2
        simp only at v2 j1 j2 ⊢
        have c5 : ¬ nI x = -5 := ans_n5 (hb x T rfl)
        have hnb : T.1 2 0 0 ≤ 200 := by rw [j2.1 2 0 0 (by omega)]; have := hk.1.2.2.1; omega
        obtain ⟨h3, e3, v3⟩ := c_drop m (T.1 2 0 0) T h2 v2 rfl hnb
        refine ⟨h3, ?_, v3.z rfl⟩
        simp only [r38, c_isMark, if_neg h1, Option.bind_some, Option.toList, List.nil_append, List.cons_append, if_neg c01, o9 hv.x, if_pos hm, if_pos hd, if_true, e2, if_neg c5, o9 v2.x, cl_of v2.ba, e3]
    · rw [if_pos hd]
      refine ⟨h, ?_, hv.z rfl⟩
      simp only [r38, c_isMark, if_neg h1, Option.bind_some, Option.toList, List.nil_append, List.cons_append, if_neg c01, o9 hv.x, if_pos hm, if_neg hd]
end CC1
