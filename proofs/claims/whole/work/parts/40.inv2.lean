/-! A row that comes out there, a part that is settled: the invariant holds on. -/
theorem sp_come_oth {S : sp} {o p pl r a b c : Nat} (hb : b ≠ o) : (sp_come S o p pl r).2.1 a b c = S.1 a b c ∧ (sp_come S o p pl r).2.2 a b c = S.2 a b c := by
  have hg : ∀ A B : sp, (sp_gh A B o p pl).1 a b c = B.1 a b c ∧ (sp_gh A B o p pl).2 a b c = B.2 a b c := by
    intro A B
    unfold sp_gh
    split <;> simp [sN_1, sN_2, hb]
  unfold sp_come
  split
  · show (sp_gh S (sp_line S o p pl r).2 o p pl).1 a b c = _ ∧ (sp_gh S (sp_line S o p pl r).2 o p pl).2 a b c = _
    rw [(hg _ _).1, (hg _ _).2]
    unfold sp_line
    split
    · exact ⟨rfl, rfl⟩
    · simp [sN_1, sN_2, sV_1, sV_2, hb]
  · show (sp_gh S (sp_last S o p pl r).2 o p pl).1 a b c = _ ∧ (sp_gh S (sp_last S o p pl r).2 o p pl).2 a b c = _
    rw [(hg _ _).1, (hg _ _).2]
    unfold sp_last
    split
    · exact ⟨rfl, rfl⟩
    · simp [sV_1, sV_2, hb]
theorem sp_come_lc {S : sp} {o p pl r : Nat} : (sp_come S o p pl r).2.1 15 o p = (if S.1 15 o p ≤ pl then pl + 1 else S.1 15 o p) ∧ (∀ c, c ≠ p → (sp_come S o p pl r).2.1 15 o c = S.1 15 o c) := by
  have hg : ∀ B : sp, (sp_gh S B o p pl).1 15 o p = (if S.1 15 o p ≤ pl then pl + 1 else S.1 15 o p) ∧ (∀ c, c ≠ p → (sp_gh S B o p pl).1 15 o c = B.1 15 o c) := by
    intro B
    unfold sp_gh
    constructor
    · simp [sN_1]
    · intro c hc
      split <;> simp [sN_1, hc]
  unfold sp_come
  split
  · refine ⟨(hg _).1, fun c hc => ?_⟩
    show (sp_gh S (sp_line S o p pl r).2 o p pl).1 15 o c = _
    rw [(hg _).2 c hc]
    unfold sp_line
    split
    · rfl
    · simp [sN_1, sV_1]
  · refine ⟨(hg _).1, fun c hc => ?_⟩
    show (sp_gh S (sp_last S o p pl r).2 o p pl).1 15 o c = _
    rw [(hg _).2 c hc]
    unfold sp_last
    split
    · rfl
    · simp [sV_1]
theorem key_nat {x : Int32} (h : 0 ≤ x ∧ x < 10) : ∃ q : Nat, q < 10 ∧ x = nI q ∧ x.toNatClampNeg = q := by
  obtain ⟨j, j1, j2⟩ := nI_of2 (M := 9) (n := 9) rfl (Int32.not_lt.mpr h.1) (by
    have := h.2
    rw [i_lt] at this
    rw [i_le]
    have z : (10 : Int32).toInt = 10 := rfl
    have z9 : (9 : Int32).toInt = 9 := rfl
    omega)
  exact ⟨j, by omega, j2, by rw [j2]; exact nI_clamp (by omega)⟩
theorem iT.come {S : sp} {o p pl : Nat} (h : iT S o) (hs : S.2 1 o 0 ≠ 0) (hp : p < S.1 5 o 0) (hg : S.1 5 o 0 < 1000) (hpl : pl ≤ S.1 15 o p) (hk : ∀ q, q < S.1 5 o 0 → ∀ j, j < S.1 15 o q → (S.2 4 (S.1 9 o q + j) 3).toNatClampNeg < 10) (hkey : 0 ≤ S.2 4 (S.1 9 o p + pl) 3 ∧ S.2 4 (S.1 9 o p + pl) 3 < 10) : iT (sp_come S o p pl (S.1 9 o p + pl)).2 o := by
  obtain ⟨h1, h2, h3⟩ := h
  obtain ⟨x, x1, x2, x3⟩ := key_nat hkey
  obtain ⟨l1, l2⟩ := sp_come_lc (S := S) (o := o) (p := p) (pl := pl) (r := S.1 9 o p + pl)
  obtain ⟨k1, k2, k3, k4, k5⟩ := sp_come_keep (S := S) (o := o) (p := p) (pl := pl) (r := S.1 9 o p + pl)
  have ec : sp_come S o p pl (S.1 9 o p + pl) = ((sp_last S o p pl (S.1 9 o p + pl)).1, sp_gh S (sp_last S o p pl (S.1 9 o p + pl)).2 o p pl) := by unfold sp_come; rw [if_neg hs]
  have v10 : ∀ y, (sp_come S o p pl (S.1 9 o p + pl)).2.2 10 o y = (sp_last S o p pl (S.1 9 o p + pl)).2.2 10 o y := by
    intro y; rw [ec]; show (sp_gh S _ o p pl).2 10 o y = _; unfold sp_gh; split <;> rfl
  have n6 : (sp_come S o p pl (S.1 9 o p + pl)).2.1 6 o 0 = 0 := by
    rw [ec]; show (sp_gh S _ o p pl).1 6 o 0 = _
    have : (sp_last S o p pl (S.1 9 o p + pl)).2.1 6 o 0 = 0 := by
      unfold sp_last
      split
      · exact h1
      · simpa [sV_1] using h1
    unfold sp_gh
    split <;> simpa [sN_1] using this
  have lcle : ∀ q, S.1 15 o q ≤ (sp_come S o p pl (S.1 9 o p + pl)).2.1 15 o q := by
    intro q
    by_cases hq : q = p
    · subst hq; rw [l1]; split <;> omega
    · rw [l2 q hq]; exact Nat.le_refl _
  have lcp : 0 < (sp_come S o p pl (S.1 9 o p + pl)).2.1 15 o p := by rw [l1]; split <;> omega
  -- the value of each key only goes up
  have up : ∀ y, (sp_last S o p pl (S.1 9 o p + pl)).2.2 10 o y = S.2 10 o y ∨ (y = x ∧ (sp_last S o p pl (S.1 9 o p + pl)).2.2 10 o y = nI p ∧ (S.2 10 o x = -6 ∨ ¬ nI p < S.2 10 o x)) := by
    intro y
    unfold sp_last
    rw [x3]
    split
    · exact Or.inl rfl
    · rename_i hc
      by_cases hy : y = x
      · subst hy
        right
        refine ⟨rfl, by simp [sV_2], ?_⟩
        by_cases h6 : S.2 10 o y = -6
        · exact Or.inl h6
        · exact Or.inr (fun q => hc ⟨h6, Or.inl q⟩)
      · left
        simp [sV_2, hy]
  have own : ∃ q, q < S.1 5 o 0 ∧ (sp_last S o p pl (S.1 9 o p + pl)).2.2 10 o x = nI q ∧ p ≤ q := by
    unfold sp_last
    rw [x3]
    split
    · rename_i hc
      rcases h2 x x1 with h6 | ⟨q, q1, q2, q3⟩
      · exact absurd h6 hc.1
      · refine ⟨q, q1, q2, ?_⟩
        rcases hc.2 with hc2 | hc2
        · rw [q2] at hc2
          have := (nI_ltI (by omega) (by omega)).mp hc2
          omega
        · have := (nI_inj (by omega) (by omega)).mp (q2.symm.trans hc2.1)
          omega
    · exact ⟨p, hp, by simp [sV_2], Nat.le_refl _⟩
  refine ⟨n6, fun y hy => ?_, fun q hq j hj => ?_⟩
  · rw [v10 y, k1 5 o 0 (by decide) (by decide) (by decide)]
    rcases up y with e | ⟨-, e, -⟩
    · rw [e]
      rcases h2 y hy with h6 | ⟨q, q1, q2, q3⟩
      · exact Or.inl h6
      · exact Or.inr ⟨q, q1, q2, Nat.lt_of_lt_of_le q3 (lcle q)⟩
    · exact Or.inr ⟨p, hp, e, lcp⟩
  · rw [k1 5 o 0 (by decide) (by decide) (by decide)] at hq ⊢
    rw [k1 9 o q (by decide) (by decide) (by decide), k3 4 _ _ (by omega), v10]
    have old : j < S.1 15 o q → ∃ q_1, q_1 < S.1 5 o 0 ∧ (sp_last S o p pl (S.1 9 o p + pl)).2.2 10 o (S.2 4 (S.1 9 o q + j) 3).toNatClampNeg = nI q_1 ∧ q ≤ q_1 := by
      intro hj2
      obtain ⟨t, t1, t2, t3⟩ := h3 q hq j hj2
      rcases up (S.2 4 (S.1 9 o q + j) 3).toNatClampNeg with e | ⟨ex, e, hor⟩
      · exact ⟨t, t1, by rw [e]; exact t2, t3⟩
      · refine ⟨p, hp, e, ?_⟩
        rw [ex] at t2
        rcases hor with h6 | h6
        · rw [t2] at h6
          exact absurd h6 (nI_ne6 (by omega))
        · rw [t2] at h6
          have := mt (fun w => nI_lt (a := p) (b := t) w (by omega)) h6
          omega
    by_cases hj2 : j < S.1 15 o q
    · exact old hj2
    · have hqp : q = p := Classical.byContradiction fun hne => by rw [l2 q hne] at hj; exact hj2 hj
      subst hqp
      rw [l1] at hj
      have hjp : j = pl := by
        split at hj <;> omega
      subst hjp
      rw [x3]
      exact own
theorem IN.come {S : sp} (h : IN S) {o p pl : Nat} (hn : S.1 1 0 0 < 2000) (ho : o < S.1 0 0 0) (hp : p < S.1 5 o 0) (hps : S.1 11 o p = 1) (hpm : S.2 13 o p ≤ S.2 0 0 0) (hprev : ∀ q, q < p → S.1 11 o q ≠ 1) (hpl : pl ≤ S.1 15 o p) (hpr : pl < S.1 10 o p) : IN (sp_come S o p pl (S.1 9 o p + pl)).2 ∧ pl + 1 ≤ (sp_come S o p pl (S.1 9 o p + pl)).2.1 15 o p := by
  obtain ⟨a1, a2, a3, a4, a5, a6, a7, a8, a9⟩ := id h
  have ho3 : o < 3 := by omega
  obtain ⟨c1, c2, c3, c4, c5, c6⟩ := a1.1 o p ho3 hp
  have hgv := a1.2.2.1 o ho3
  have hP := a5 o p ho hp
  have hrow := (c4 (S.1 9 o p + pl) (by omega)).mpr (by omega)
  have hkey := a1.2.2.2.2.1 (S.1 9 o p + pl) (by omega) hrow.1
  obtain ⟨l1, l2⟩ := sp_come_lc (S := S) (o := o) (p := p) (pl := pl) (r := S.1 9 o p + pl)
  obtain ⟨k1, k2, k3, k4, k5⟩ := sp_come_keep (S := S) (o := o) (p := p) (pl := pl) (r := S.1 9 o p + pl)
  have oth : ∀ {a b c : Nat}, b ≠ o → (sp_come S o p pl (S.1 9 o p + pl)).2.1 a b c = S.1 a b c ∧ (sp_come S o p pl (S.1 9 o p + pl)).2.2 a b c = S.2 a b c := fun hb => sp_come_oth hb
  obtain ⟨T, hT⟩ : ∃ T, T = (sp_come S o p pl (S.1 9 o p + pl)).2 := ⟨_, rfl⟩
  have iLc : S.2 1 o 0 = 0 → iL T o := fun hz => by
    rw [hT]
    refine ((a6 o ho).2.1 hz).come hz hp hgv (by have := h.lines o; omega) hpl (by have := hP.2.1; omega) (fun q hq1 hq2 => ?_) hkey |>.1
    have := ((a6 o ho).1 p q hq1 hq2).2
    exact Classical.byContradiction fun hne => this (by omega) hps
  have iTc : S.2 1 o 0 ≠ 0 → iT T o := fun hz => by
    rw [hT]
    refine ((a6 o ho).2.2 hz).come hz hp hgv hpl (fun q hq j hj => ?_) hkey
    obtain ⟨d1, d2, d3, d4, d5, d6⟩ := a1.1 o q ho3 hq
    have hPq := a5 o q ho hq
    have hlq := hPq.2.2.1
    have hr := (d4 (S.1 9 o q + j) (by omega)).mpr (by omega)
    obtain ⟨x, x1, x2, x3⟩ := key_nat (a1.2.2.2.2.1 (S.1 9 o q + j) (by omega) hr.1)
    omega
  rw [← hT] at l1 l2 k1 k2 k3 k5 oth ⊢
  clear hT
  have N0 : T.1 0 0 0 = S.1 0 0 0 := k1 0 0 0 (by decide) (by decide) (by decide)
  have N5 : ∀ b, T.1 5 b 0 = S.1 5 b 0 := fun b => k1 5 b 0 (by decide) (by decide) (by decide)
  have l1' : pl + 1 ≤ T.1 15 o p ∧ T.1 15 o p ≤ S.1 10 o p := by
    rw [l1]
    have := hP.2.2.1
    split <;> omega
  refine ⟨⟨a1.same (fun i c _ => k3 4 i c (by omega)) N0 (k1 1 0 0 (by decide) (by decide) (by decide)) (fun b _ => N5 b) (fun b q _ _ => ⟨k1 9 b q (by decide) (by decide) (by decide), k1 10 b q (by decide) (by decide) (by decide), k1 11 b q (by decide) (by decide) (by decide), k3 13 b q (by omega)⟩) (k3 0 0 0 (by omega)) (k3 0 1 0 (by omega)), ?_, by rw [N0]; exact a3, fun b hb => ?_, fun b q hb hq => ?_, fun b hb => ⟨?_, ?_, ?_⟩, fun b hb => ?_, by rw [k3 0 0 0 (by omega)]; exact a8, by rw [k3 0 0 0 (by omega)]; exact a9⟩, l1'.1⟩
  · unfold sp_LP at a2 ⊢
    rw [k3 0 3 0 (by omega)]
    exact a2
  · rw [N0] at hb
    have hbo : b ≠ o := by omega
    rw [N5 b, k5 b hbo]
    exact a4 b hb
  · rw [N0] at hb
    rw [N5 b] at hq
    have hPq := a5 b q hb hq
    unfold iP at hPq ⊢
    rw [k1 10 b q (by decide) (by decide) (by decide), k1 11 b q (by decide) (by decide) (by decide), k3 13 b q (by omega), k3 0 0 0 (by omega)]
    by_cases hbq : b = o ∧ q = p
    · obtain ⟨rfl, rfl⟩ := hbq
      refine ⟨hPq.1, hPq.2.1, l1'.2, fun q2 => by omega, fun q2 => by omega, hPq.2.2.2.2.2.1, fun _ => hpm⟩
    · have e15 : T.1 15 b q = S.1 15 b q := by
        by_cases hbo : b = o
        · subst hbo; exact l2 q (by omega)
        · exact (oth hbo).1
      rw [e15]
      exact hPq
  · rw [N0] at hb
    intro q1 q2 hq12 hq2
    rw [N5 b] at hq2
    have := (a6 b hb).1 q1 q2 hq12 hq2
    rw [k1 11 b q1 (by decide) (by decide) (by decide), k1 11 b q2 (by decide) (by decide) (by decide), k3 13 b q1 (by omega), k3 13 b q2 (by omega)]
    refine ⟨this.1, fun hlc => ?_⟩
    by_cases hbq : b = o ∧ q2 = p
    · obtain ⟨rfl, rfl⟩ := hbq
      exact hprev q1 hq12
    · have e15 : T.1 15 b q2 = S.1 15 b q2 := by
        by_cases hbo : b = o
        · subst hbo; exact l2 q2 (by omega)
        · exact (oth hbo).1
      rw [e15] at hlc
      exact this.2 hlc
  · rw [N0] at hb
    intro hz
    by_cases hbo : b = o
    · subst hbo
      rw [k3 1 b 0 (by omega)] at hz
      exact iLc hz
    · rw [(oth hbo).2] at hz
      have := (a6 b hb).2.1 hz
      unfold iL at this ⊢
      simp only [(oth hbo).1, (oth hbo).2]
      exact this
  · rw [N0] at hb
    intro hz
    by_cases hbo : b = o
    · subst hbo
      rw [k3 1 b 0 (by omega)] at hz
      exact iTc hz
    · rw [(oth hbo).2] at hz
      have := (a6 b hb).2.2 hz
      unfold iT at this ⊢
      have v4 : ∀ i c, T.2 4 i c = S.2 4 i c := fun i c => k3 4 i c (by omega)
      simp only [(oth hbo).1, v4]
      have v10 : ∀ y, T.2 10 b y = S.2 10 b y := fun y => (oth hbo).2
      simp only [v10]
      exact this
  · rw [N0] at hb
    rw [k3 1 b 2 (by omega)]
    exact a7 b hb
