/-! The model: greatest, bars, strange. -/
section MG
variable {M n s : Nat} {mem : Nat → am_C} {h : am_H} {S : sp} {pd : Int32}
theorem k_greatest (P : Nat × Nat) (hs : MS M n s mem pd h S) (hb : S.1 2 0 0 < 201) : am_E P 84 0 [some (.ref M)] [] h = some (some (.int (sp_gr S)), h) := by
  obtain ⟨f, F, hv, ⟨f1, f2, f3, f4, f5, -⟩, hF, -⟩ := hs
  by_cases c : 0 < S.1 2 0 0
  · have c1 : ¬ nI (S.1 2 0 0) ≤ 0 := nI_nle c (by omega)
    have c2 : nI (S.1 2 0 0) - 1 = nI (S.1 2 0 0 - 1) := by
      have := nI_pred (S.1 2 0 0 - 1)
      rwa [show S.1 2 0 0 - 1 + 1 = S.1 2 0 0 by omega] at this
    have g := hF.2.2.2.2.2.2 (S.1 2 0 0 - 1) (by omega)
    simp only [r84, hv.g, mo_g, f4, f5, Option.bind_some, if_neg c1, c2, hv.ld 23 (by decide) (by decide) (q := S.1 2 0 0 - 1) (show _ < 201 by omega), g, k_great]
    simp [sp_gr, c, r84]
  · have c1 : nI (S.1 2 0 0) ≤ 0 := by
      have : S.1 2 0 0 = 0 := by omega
      rw [this]; decide
    simp only [r84, hv.g, mo_g, f4, f5, Option.bind_some, if_pos c1]
    simp [sp_gr, c]
theorem k_strange (P : Nat × Nat) (hs : MS M n s mem pd h S) (o : Int32) : am_E P 75 0 [some (.ref M), some (.int o)] [] h = some (some (.int (if o < 0 ∨ nI (S.1 0 0 0) - 1 < o then 1 else 0)), h) := by
  obtain ⟨f, F, hv, ⟨f1, -⟩, hF, -⟩ := hs
  simp only [r75, hv.g, mo_g, f1, Option.bind_some, k_no]
  by_cases c : o < 0 ∨ nI (S.1 0 0 0) - 1 < o
  · simp [c, r75]
  · simp [c, r75]
theorem k_bars (P : Nat × Nat) (hs : MS M n s mem pd h S) (hb : S.1 2 0 0 < 201) (h3 : S.1 0 0 0 ≤ 3) (hgv : ∀ o, o < 3 → S.1 5 o 0 ≤ 1000 ∧ S.1 4 o 0 ≤ 1000) (m : Int32) : am_E P 85 0 [some (.ref M), some (.int m), none, none, none] [] h = some (some (.int (sp_bars S m)), h) := by
  have e1 := k_greatest P hs hb
  have hs0 := hs
  obtain ⟨f, F, hv, ⟨f1, f2, f3, f4, f5, f6, f7, f8, f9, f10⟩, hF, hpd⟩ := hs
  have hsm : ∀ o, o ≤ 3 → sp_pts S o ≤ 1001 * o := by
    intro o
    induction o with
    | zero => intro _; simp [sp_pts]
    | succ o ih =>
      intro ho
      have := ih (by omega)
      have := (hgv o (by omega)).1
      unfold sp_pts
      split <;> omega
  have loop : ∀ k o, o + k = S.1 0 0 0 → am_E P 85 54 [some (.ref M), some (.int m), some (.int (sp_gr S)), some (.int (nI (sp_pts S o))), some (.int (nI o))] [] h = some (some (.int (if S.2 0 5 0 = 200 ∨ 100 < sp_pts S (S.1 0 0 0) then -4 else 0)), h) := by
    intro k
    induction k with
    | zero =>
      intro o ho
      obtain rfl : o = S.1 0 0 0 := by omega
      rw [hd85_54]
      have c : nI (S.1 0 0 0) ≤ nI (S.1 0 0 0) := Int32.le_refl _
      simp only [r85, hv.g, mo_g, f1, f6, Option.bind_some, if_pos c]
      have hb1 := hsm _ h3
      by_cases c1 : S.2 0 5 0 = 200
      · simp [c1]
      · by_cases c2 : 100 < sp_pts S (S.1 0 0 0)
        · have c3 : ¬ nI (sp_pts S (S.1 0 0 0)) ≤ 100 := nI_ge (a := 100) c2 (by omega)
          simp [c1, c2, c3]
        · have c3 : nI (sp_pts S (S.1 0 0 0)) ≤ 100 := nI_le (b := 100) (by omega) (by decide)
          simp [c1, c2, c3]
    | succ k ih =>
      intro o ho
      have c : ¬ nI (S.1 0 0 0) ≤ nI o := nI_ge (by omega) (by omega)
      have g := hF.1 o (by omega)
      have := ih (o + 1) (by omega)
      rw [hd85_54]
      simp only [r85, hv.g, mo_g, f1, Option.bind_some, if_neg c, hv.ld 5 (by decide) (by decide) (q := o) (show o < 3 by omega), hv.ld 2 (by decide) (by decide) (q := o) (show o < 3 by omega), g.2.1, g.2.2.1, nI_1]
      rw [show sp_pts S (o + 1) = sp_pts S o + (S.1 5 o 0 + (if 0 < S.1 4 o 0 then 1 else 0)) from rfl] at this
      by_cases c4 : 0 < S.1 4 o 0
      · have c5 : ¬ nI (S.1 4 o 0) ≤ 0 := nI_nle c4 (by have := (hgv o (by omega)).2; omega)
        rw [if_pos c4] at this
        rw [if_neg c5]
        simp only [nI_1, nI_add]
        exact this
      · have c5 : nI (S.1 4 o 0) ≤ 0 := by
          have : S.1 4 o 0 = 0 := by omega
          rw [this]; decide
        rw [if_neg c4] at this
        rw [if_pos c5]
        simp only [Int32.add_zero, nI_add]
        exact this
  have l0 := loop _ 0 (Nat.zero_add _)
  simp only [r85, hs0.c, if_true, e1, Option.bind_some, Option.toList_some, List.cons_append, List.nil_append, k_no]
  unfold sp_bars
  by_cases c1 : m < 0 ∨ 1000000 < m
  · have c2 : m < 0 ∨ 1000000 < m ∨ (sp_gr S ≠ -6 ∧ m ≤ sp_gr S) := by
      rcases c1 with c1 | c1
      · exact Or.inl c1
      · exact Or.inr (Or.inl c1)
    rw [if_pos c2, if_pos c1]
    simp [r85]
  · rw [if_neg c1]
    by_cases c2 : sp_gr S = -6
    · have c3 : ¬ (m < 0 ∨ 1000000 < m ∨ (sp_gr S ≠ -6 ∧ m ≤ sp_gr S)) := by
        rintro (q | q | q)
        · exact c1 (Or.inl q)
        · exact c1 (Or.inr q)
        · exact q.1 c2
      rw [if_neg c3]
      simp only [r85, c2, if_true, hv.g, mo_g, f7, f8, Option.bind_some] at l0 ⊢
      by_cases d1 : S.2 0 2 0 = 0
      · by_cases d2 : S.2 0 1 0 = 0
        · simp only [d1, d2, if_true, ne_eq, not_true_eq_false, if_false]
          exact l0
        · simp [d1, d2]
      · simp [d1]
    · by_cases c4 : m ≤ sp_gr S
      · have c3 : (m < 0 ∨ 1000000 < m ∨ (sp_gr S ≠ -6 ∧ m ≤ sp_gr S)) := Or.inr (Or.inr ⟨c2, c4⟩)
        have c5 : ¬ sp_gr S < m := Int32.not_lt.mpr c4
        rw [if_pos c3]
        simp [r85, c2, c5]
      · have c3 : ¬ (m < 0 ∨ 1000000 < m ∨ (sp_gr S ≠ -6 ∧ m ≤ sp_gr S)) := by
          rintro (q | q | q)
          · exact c1 (Or.inl q)
          · exact c1 (Or.inr q)
          · exact c4 q.2
        have c5 : sp_gr S < m := Int32.not_le.mp c4
        rw [if_neg c3]
        simp only [r85, c2, c5, if_true, if_false, hv.g, mo_g, f7, f8, Option.bind_some]
        by_cases d1 : S.2 0 2 0 = 0
        · by_cases d2 : S.2 0 1 0 = 0
          · simp only [d1, d2, if_true, ne_eq, not_true_eq_false, if_false]
            exact l0
          · simp [d1, d2]
        · simp [d1]
end MG
