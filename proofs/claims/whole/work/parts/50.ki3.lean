/-! barrier, keep, end, give, open keep the invariant. -/
theorem KJ.bm_le {S : sp} {c : Nat} (h : KJ S c) : ∀ i, i < S.1 2 0 0 → S.2 5 i 0 ≤ S.2 5 (S.1 2 0 0 - 1) 0 := by
  obtain ⟨a1, a2, a3, a4, a5, a6, a7, a8, -⟩ := h
  have : ∀ k i, i + k + 1 = S.1 2 0 0 → S.2 5 i 0 ≤ S.2 5 (S.1 2 0 0 - 1) 0 := by
    intro k
    induction k with
    | zero =>
      intro i hi
      rw [show S.1 2 0 0 - 1 = i by omega]
      exact Int32.le_refl _
    | succ k ih =>
      intro i hi
      exact Int32.le_trans (Int32.le_of_lt ((a8 i (by omega)).2.2 (by omega))) (ih (i + 1) (by omega))
  intro i hi
  exact this (S.1 2 0 0 - 1 - i) i (by omega)
theorem bars_0 {S : sp} {m : Int32} (h : sp_bars S m = 0) : 0 ≤ m ∧ m ≤ 1000000 ∧ ¬ (sp_gr S ≠ -6 ∧ m ≤ sp_gr S) ∧ S.2 0 2 0 = 0 ∧ S.2 0 1 0 = 0 ∧ sp_pts S (S.1 0 0 0) ≤ 100 := by
  unfold sp_bars at h
  split at h
  · exact absurd h (by decide)
  · rename_i h1
    split at h
    · exact absurd h (by decide)
    · rename_i h2
      split at h
      · exact absurd h (by decide)
      · rename_i h3
        split at h
        · exact absurd h (by decide)
        · rename_i h4
          refine ⟨Int32.not_lt.mp (fun q => h1 (Or.inl q)), Int32.not_lt.mp (fun q => h1 (Or.inr (Or.inl q))), fun q => h1 (Or.inr (Or.inr q)), Classical.byContradiction h2, Classical.byContradiction h3, ?_⟩
          exact Nat.le_of_not_lt (fun q => h4 (Or.inr q))
theorem KJ.bars_lt {S : sp} {c : Nat} {m : Int32} (h : KJ S c) (hb : sp_bars S m = 0) : S.2 0 0 0 < m ∧ ∀ i, i < S.1 2 0 0 → S.2 5 i 0 < m := by
  obtain ⟨b1, b2, b3, b4, b5, b6⟩ := bars_0 hb
  have hle := h.bm_le
  have hg := h.2.2.2.2.2.2.2.1
  have z0 : (0 : Int32).toInt = 0 := rfl
  rw [i_le] at b1
  have key : (S.2 0 0 0).toInt ≤ (sp_gr S).toInt ∧ (0 < S.1 2 0 0 → (S.2 5 (S.1 2 0 0 - 1) 0).toInt ≤ (sp_gr S).toInt) := by
    unfold sp_gr
    split
    · split
      · rename_i q
        rw [i_lt] at q
        exact ⟨by omega, fun _ => by omega⟩
      · rename_i q
        have q := i_le.mp (Int32.not_lt.mp q)
        exact ⟨q, fun _ => Int.le_refl _⟩
    · exact ⟨Int.le_refl _, fun q => by omega⟩
  have hlt : (sp_gr S).toInt < m.toInt := by
    by_cases h6 : sp_gr S = -6
    · rw [h6, nm_m6]; omega
    · have := Int32.not_le.mp (fun q => b3 ⟨h6, q⟩)
      rw [i_lt] at this
      exact this
  refine ⟨by rw [i_lt]; omega, fun i hi => ?_⟩
  have := i_le.mp (hle i hi)
  have := key.2 (by omega)
  rw [i_lt]
  omega
theorem KI.hM {S : sp} {c : Nat} {m : Int32} (h : KI S c) (hb : sp_bars S m = 0) : hM S m := by
  obtain ⟨l1, l2⟩ := h.1.bars_lt hb
  have hd := (bars_0 hb).2.2.2.1
  intro b q hq hz
  have hb0 : b < S.1 0 0 0 := by
    refine Classical.byContradiction fun hn => ?_
    have := (h.1.1.1.2.2.2.1 b (by omega)).1
    omega
  have hiP := h.1.1.1.2.2.2.2.1 b q hb0 hq
  rcases hz with e | e
  · rcases h.2 hd b q hq e with f | ⟨i, i1, i2⟩
    · exact Int32.le_trans f (Int32.le_of_lt l1)
    · rw [← i2]; exact Int32.le_of_lt (l2 i i1)
  · have := hiP.2.2.2.1 e
    exact Int32.le_trans (hiP.2.2.2.2.2.2 (by have := hiP.1; omega)) (Int32.le_of_lt l1)
/-- a barrier: the invariant, and no more than was owed -/
theorem KI.bar {S : sp} {c : Nat} {m : Int32} (h : KI S c) (hc : c < 100) (hb : sp_bars S m = 0) : KI (sp_bar S m).2 (c + 1) ∧ PH (sp_bar S m).2 ≤ 3 * c ∧ (¬ (sp_bar S m).1 < 0 → (sp_bar S m).2.2 0 2 0 = 0) ∧ (sp_bar S m).2.2 0 0 0 = S.2 0 0 0 ∧ ((sp_bar S m).1 < 0 → (sp_bar S m).1 = -5) := by
  have hM0 := h.hM hb
  obtain ⟨l1, l2⟩ := h.1.bars_lt hb
  obtain ⟨y1, y2, y3, y4, y5, y6⟩ := bars_0 hb
  obtain ⟨⟨a1, a2, a3, ⟨md, a4, a4'⟩, a5, a6, a7, a8, a9, a10, a11⟩, hkl⟩ := id h
  have h3 := a1.1.2.2.1
  obtain ⟨S1, hS1⟩ : ∃ S1, S1 = sV S 0 5 0 (S.2 0 5 0 + 1) := ⟨_, rfl⟩
  have s1 : S1.1 = S.1 := by rw [hS1]; rfl
  have v1 : ∀ a b d, ¬ (a = 0 ∧ b = 5 ∧ d = 0) → S1.2 a b d = S.2 a b d := fun a b d q => by rw [hS1, sV_2, if_neg q]
  have v5 : S1.2 0 5 0 = S.2 0 5 0 + 1 := by rw [hS1]; simp [sV_2]
  have hlp1 : sp_LP S1 := by
    have := a1.1.2.1
    unfold sp_LP at this ⊢
    rw [v1 0 3 0 (by omega)]
    exact this
  have j1 : JN S1 := a1.same (fun a b d _ => by rw [s1]) (fun a b d q => v1 a b d (by omega)) (v1 0 0 0 (by omega)) (v1 0 1 0 (by omega)) (fun b => v1 1 b 0 (by omega)) hlp1 (fun b hb => by rw [v1 1 b 2 (by omega)]; exact a1.1.2.2.2.2.2.2.1 b hb)
  have hPD1 : PD S1 = PD S := PD_same (by rw [s1]) (fun o => by rw [s1]) (fun o p => by rw [s1])
  have hPH1 : PH S1 = PH S := by unfold PH; rw [hPD1, s1]
  obtain ⟨q1, q2, q3, q4, q5⟩ := JN.barL (m := m) y1 (S.1 0 0 0) 0 0 S1 j1 (by rw [s1]; omega) (fun b => by rw [s1]; exact a5 b) (fun b j hb hj => by rw [v1 2 b j (by omega)]; rw [s1] at hj; exact a6 b j hb hj) (by omega) (fun b q hq hz => by rw [v1 13 b q (by omega)]; rw [s1] at hq hz; exact hM0 b q hq hz)
  unfold sp_bar
  rw [← hS1]
  clear hS1
  cases hL : sp_barL m (S.1 0 0 0) 0 0 S1 with
  | mk r T =>
    rw [hL] at q1 q2 q3 q4 q5
    simp only at q1 q2 q3 q4 q5
    obtain ⟨b1, b2, b3, b4, b5, b6⟩ := q3
    have N : ∀ a b d, a = 0 ∨ a = 2 ∨ a = 3 ∨ a = 6 ∨ a = 7 ∨ a = 8 → T.1 a b d = S.1 a b d := fun a b d q => by rw [b1 a b d q, s1]
    have V : ∀ a b d, a ≠ 0 → a ≠ 4 → a ≠ 13 → T.2 a b d = S.2 a b d := fun a b d h0 h4 h13 => by rw [b3 a b d h0 h4 h13, v1 a b d (by omega)]
    have V0 : T.2 0 0 0 = S.2 0 0 0 := by rw [b4 0 0 (by decide) (by decide) (by decide), v1 0 0 0 (by omega)]
    have V5 : T.2 0 5 0 = nI (md + 1) := by rw [b4 5 0 (by decide) (by decide) (by decide), v5, a4', nI_1]
    have N4 : ∀ b, T.1 4 b 0 ≤ S.1 4 b 0 := fun b => by have := b2 b; rw [s1] at this; exact this
    have hkj : KJ T (c + 1) := by
      refine ⟨q1, by omega, by rw [N 2 0 0 (by omega)]; omega, ⟨md + 1, by omega, V5⟩, fun o => Nat.le_trans (N4 o) (a5 o), fun o j ho hj => by rw [V 2 o j (by decide) (by decide) (by decide)]; exact a6 o j ho (Nat.lt_of_lt_of_le hj (N4 o)), fun o ho => ?_, fun i hi => ?_, ?_, fun o ho => ?_, by rw [N 3 0 0 (by omega)]; exact a11.1, fun r hr => ?_⟩
      · rw [N 0 0 0 (by omega)] at ho
        obtain ⟨z1, z2, z3, z4⟩ := a7 o ho
        refine ⟨by have := N4 o; omega, by rw [V 1 o 1 (by decide) (by decide) (by decide)]; exact z2, by rw [V 1 o 2 (by decide) (by decide) (by decide)]; exact z3, fun y hy => ?_⟩
        rw [V 10 o y (by decide) (by decide) (by decide), V 11 o y (by decide) (by decide) (by decide), V 12 o y (by decide) (by decide) (by decide)]
        exact z4 y hy
      · rw [N 2 0 0 (by omega)] at hi ⊢
        rw [V 5 i 0 (by decide) (by decide) (by decide), V 5 (i + 1) 0 (by decide) (by decide) (by decide)]
        exact a8 i hi
      · rcases b5 with e | e
        · rw [e, v1 0 2 0 (by omega)]; exact a9
        · exact Or.inr e
      · rw [N 0 0 0 (by omega)] at ho
        rw [V 1 o 0 (by decide) (by decide) (by decide), V 1 o 2 (by decide) (by decide) (by decide)]
        exact a10 o ho
      · rw [N 3 0 0 (by omega)] at hr
        rw [N 7 r 0 (by omega), N 8 r 0 (by omega), N 0 0 0 (by omega), N 6 _ 0 (by omega), V 1 _ 0 (by decide) (by decide) (by decide)]
        exact a11.2 r hr
    cases r with
    | none =>
      have hdn := q5 rfl
      refine ⟨⟨hkj, fun hd => ?_⟩, by simp only; omega, fun hq => absurd (show (-5 : Int32) < 0 by decide) hq, V0, fun _ => rfl⟩
      rw [hdn] at hd
      exact absurd hd (by decide)
    | some w =>
      obtain ⟨w1, w2⟩ := q4 w rfl
      rw [v1 0 2 0 (by omega), y4] at w2
      have hw : ¬ nI w < 0 := Int32.not_lt.mpr (nI_le (a := 0) (by omega) (by omega))
      obtain ⟨U, hU⟩ : ∃ U, U = sN (sV T 5 (T.1 2 0 0) 0 m) 2 0 0 (T.1 2 0 0 + 1) := ⟨_, rfl⟩
      show KI (sN (sV T 5 (T.1 2 0 0) 0 m) 2 0 0 (T.1 2 0 0 + 1)) (c + 1) ∧ PH (sN (sV T 5 (T.1 2 0 0) 0 m) 2 0 0 (T.1 2 0 0 + 1)) ≤ 3 * c ∧ (¬ nI w < 0 → (sN (sV T 5 (T.1 2 0 0) 0 m) 2 0 0 (T.1 2 0 0 + 1)).2 0 2 0 = 0) ∧ (sN (sV T 5 (T.1 2 0 0) 0 m) 2 0 0 (T.1 2 0 0 + 1)).2 0 0 0 = S.2 0 0 0 ∧ (nI w < 0 → nI w = -5)
      have T2 := N 2 0 0 (by omega)
      have uN : ∀ a b d, a ≠ 2 → U.1 a b d = T.1 a b d := fun a b d q => by rw [hU, sN_1, if_neg (by omega)]; rfl
      have u2 : U.1 2 0 0 = S.1 2 0 0 + 1 := by rw [hU, sN_1, if_pos ⟨rfl, rfl, rfl⟩, T2]
      have uV : ∀ a b d, ¬ (a = 5 ∧ b = S.1 2 0 0 ∧ d = 0) → U.2 a b d = T.2 a b d := fun a b d q => by rw [hU, sN_2, sV_2, T2, if_neg q]
      have u5 : U.2 5 (S.1 2 0 0) 0 = m := by rw [hU, sN_2, sV_2, T2, if_pos ⟨rfl, rfl, rfl⟩]
      rw [← hU]
      clear hU
      obtain ⟨k1, k2, k3, k4, k5, k6, k7, k8, k9, k10, k11⟩ := hkj
      have hPDU : PD U = PD T := PD_same (uN 1 0 0 (by decide)) (fun o => uN 5 o 0 (by decide)) (fun o p => uN 11 o p (by decide))
      have hPHU : PH U = PH T := by unfold PH; rw [hPDU, uN 4 0 0 (by decide), uN 4 1 0 (by decide), uN 4 2 0 (by decide)]
      have hlpU : sp_LP U := by
        have := k1.1.2.1
        unfold sp_LP at this ⊢
        rw [uV 0 3 0 (by omega)]
        exact this
      refine ⟨⟨⟨k1.same (fun a b d q => uN a b d (by omega)) (fun a b d q => uV a b d (by omega)) (uV 0 0 0 (by omega)) (uV 0 1 0 (by omega)) (fun b => uV 1 b 0 (by omega)) hlpU (fun b hb => by rw [uV 1 b 2 (by omega)]; exact k1.1.2.2.2.2.2.2.1 b hb), by omega, by omega, ⟨md + 1, by omega, by rw [uV 0 5 0 (by omega)]; exact V5⟩, fun o => by rw [uN 4 o 0 (by decide)]; exact k5 o, fun o j ho hj => by rw [uV 2 o j (by omega)]; rw [uN 4 o 0 (by decide)] at hj; exact k6 o j ho hj, fun o ho => ?_, fun i hi => ?_, by rw [uV 0 2 0 (by omega)]; exact k9, fun o ho => ?_, by rw [uN 3 0 0 (by decide)]; exact k11.1, fun r hr => ?_⟩, fun hd o p hp h1 => ?_⟩, by omega, fun _ => by rw [uV 0 2 0 (by omega)]; exact w2, by rw [uV 0 0 0 (by omega)]; exact V0, fun q => absurd q hw⟩
      · rw [uN 0 0 0 (by decide)] at ho
        obtain ⟨z1, z2, z3, z4⟩ := k7 o ho
        refine ⟨by rw [uN 4 o 0 (by decide)]; exact z1, by rw [uV 1 o 1 (by omega)]; exact z2, by rw [uV 1 o 2 (by omega)]; exact z3, fun y hy => ?_⟩
        rw [uV 10 o y (by omega), uV 11 o y (by omega), uV 12 o y (by omega)]
        exact z4 y hy
      · rw [u2] at hi ⊢
        by_cases hi2 : i = S.1 2 0 0
        · subst hi2
          rw [u5]
          exact ⟨y1, y2, fun q => by omega⟩
        · have hiS : i < S.1 2 0 0 := by omega
          have e5 : U.2 5 i 0 = S.2 5 i 0 := by rw [uV 5 i 0 (by omega), V 5 i 0 (by decide) (by decide) (by decide)]
          obtain ⟨z1, z2, z3⟩ := a8 i hiS
          rw [e5]
          refine ⟨z1, z2, fun q => ?_⟩
          by_cases hi3 : i + 1 = S.1 2 0 0
          · rw [hi3, u5]
            exact l2 i hiS
          · rw [uV 5 (i + 1) 0 (by omega), V 5 (i + 1) 0 (by decide) (by decide) (by decide)]
            exact z3 (by omega)
      · rw [uN 0 0 0 (by decide)] at ho
        rw [uV 1 o 0 (by omega), uV 1 o 2 (by omega)]
        exact k10 o ho
      · rw [uN 3 0 0 (by decide)] at hr
        rw [uN 7 r 0 (by decide), uN 8 r 0 (by decide), uN 0 0 0 (by decide), uN 6 _ 0 (by decide), uV 1 _ 0 (by omega)]
        exact k11.2 r hr
      · rw [uN 5 o 0 (by decide)] at hp
        rw [uN 11 o p (by decide)] at h1
        rw [uV 13 o p (by omega), uV 0 0 0 (by omega), V0, u2]
        rcases b6 o p 1 hp (Or.inl rfl) h1 with e | ⟨e1, e2, e3⟩
        · right
          exact ⟨S.1 2 0 0, by omega, by rw [u5]; exact e.2.symm⟩
        · rw [s1] at e1 e2
          rw [e3, v1 13 o p (by omega)]
          rcases hkl y4 o p e1 e2 with f | ⟨i, i1, i2⟩
          · exact Or.inl f
          · refine Or.inr ⟨i, by omega, ?_⟩
            rw [uV 5 i 0 (by omega), V 5 i 0 (by decide) (by decide) (by decide)]
            exact i2
theorem KI.barrier {S : sp} {c : Nat} {m : Int32} (h : KI S c) (hc : c < 100) : KI (sp_barrier S m).2 (c + 1) := by
  unfold sp_barrier
  split
  · exact h.mono
  · rename_i hb
    exact (h.bar hc (Classical.byContradiction hb)).1
/-- a mark is kept -/
theorem KI.kept {S : sp} {c : Nat} {k m : Int32} (h : KI S c) (hc : c < 200) (hph : PH S + 1 ≤ 3 * c) (hk : k = 2 ∨ k = 5) (hm : S.2 0 0 0 < m) (hmx : m ≤ 1000000) (ht : (sp_rec S k (-6) (-6) m (-6)).1 = true) {T : sp} (hT : T = sV (sp_rec S k (-6) (-6) m (-6)).2 0 0 0 m ∧ k = 2 ∨ T = sV (sV (sp_rec S k (-6) (-6) m (-6)).2 0 0 0 m) 0 1 0 1 ∧ k = 5) : KI T c := by
  obtain ⟨⟨a1, a2, a3, a4, a5, a6, a7, a8, a9, a10, a11⟩, hkl⟩ := id h
  have hpd : PD S < 900 := by unfold PH at a2; omega
  obtain ⟨j1, j2⟩ := a1.keep hk hm hmx hpd ht hT
  have hV : ∀ a b d, a ≠ 0 → a ≠ 4 → T.2 a b d = S.2 a b d := by
    intro a b d ha h4
    rcases hT with ⟨rfl, -⟩ | ⟨rfl, -⟩ <;> simp [sV_2, ha, sr_V ha h4]
  have hN : ∀ a b d, a ≠ 1 → T.1 a b d = S.1 a b d := by
    intro a b d ha
    rcases hT with ⟨rfl, -⟩ | ⟨rfl, -⟩ <;> exact sr_N4 ha ht
  have hmk : T.2 0 0 0 = m := by
    rcases hT with ⟨rfl, -⟩ | ⟨rfl, -⟩ <;> simp [sV_2]
  have hdn : T.2 0 2 0 = S.2 0 2 0 := by
    rcases hT with ⟨rfl, -⟩ | ⟨rfl, -⟩ <;> simp [sV_2, sr_dn ht]
  have h5 : T.2 0 5 0 = S.2 0 5 0 := by
    rcases hT with ⟨rfl, -⟩ | ⟨rfl, -⟩ <;> simp [sV_2, sr_V0]
  clear hT
  refine ⟨⟨j1, ?_, by rw [hN 2 0 0 (by decide)]; exact a3, by rw [h5]; exact a4, fun o => by rw [hN 4 o 0 (by decide)]; exact a5 o, fun o j ho hj => by rw [hV 2 o j (by decide) (by decide)]; rw [hN 4 o 0 (by decide)] at hj; exact a6 o j ho hj, fun o ho => ?_, fun i hi => ?_, by rw [hdn]; exact a9, fun o ho => ?_, by rw [hN 3 0 0 (by decide)]; exact a11.1, fun r hr => ?_⟩, fun hd o p hp h1 => ?_⟩
  · unfold PH at hph ⊢
    rw [j2, hN 4 0 0 (by decide), hN 4 1 0 (by decide), hN 4 2 0 (by decide)]
    omega
  · rw [hN 0 0 0 (by decide)] at ho
    obtain ⟨z1, z2, z3, z4⟩ := a7 o ho
    refine ⟨by rw [hN 4 o 0 (by decide)]; exact z1, by rw [hV 1 o 1 (by decide) (by decide)]; exact z2, by rw [hV 1 o 2 (by decide) (by decide)]; exact z3, fun y hy => ?_⟩
    rw [hV 10 o y (by decide) (by decide), hV 11 o y (by decide) (by decide), hV 12 o y (by decide) (by decide)]
    exact z4 y hy
  · rw [hN 2 0 0 (by decide)] at hi ⊢
    rw [hV 5 i 0 (by decide) (by decide), hV 5 (i + 1) 0 (by decide) (by decide)]
    exact a8 i hi
  · rw [hN 0 0 0 (by decide)] at ho
    rw [hV 1 o 0 (by decide) (by decide), hV 1 o 2 (by decide) (by decide)]
    exact a10 o ho
  · rw [hN 3 0 0 (by decide)] at hr
    rw [hN 7 r 0 (by decide), hN 8 r 0 (by decide), hN 0 0 0 (by decide), hN 6 _ 0 (by decide), hV 1 _ 0 (by decide) (by decide)]
    exact a11.2 r hr
  · rw [hdn] at hd
    rw [hN 5 o 0 (by decide)] at hp
    rw [hN 11 o p (by decide)] at h1
    rw [hV 13 o p (by decide) (by decide), hmk, hN 2 0 0 (by decide)]
    rcases hkl hd o p hp h1 with e | ⟨i, i1, i2⟩
    · exact Or.inl (Int32.le_trans e (Int32.le_of_lt hm))
    · exact Or.inr ⟨i, i1, by rw [hV 5 i 0 (by decide) (by decide)]; exact i2⟩
theorem KI.recF {S : sp} {c : Nat} {k o p n v : Int32} (h : KI S c) (hf : (sp_rec S k o p n v).1 = false) : KI (sp_rec S k o p n v).2 c := h.st (ST.recF hf) (h.1.1.recF hf) OT.rec
theorem q_bh_ex {S : sp} {m : Int32} : ∀ {n : Nat}, q_bh S m n = true ↔ ∃ i, i < n ∧ S.2 5 i 0 = m := by
  intro n
  induction n with
  | zero =>
    constructor
    · intro h; cases h
    · rintro ⟨i, hi, -⟩; omega
  | succ n ih =>
    unfold q_bh
    rw [Bool.or_eq_true, ih]
    constructor
    · rintro (⟨i, h1, h2⟩ | h)
      · exact ⟨i, by omega, h2⟩
      · exact ⟨n, by omega, by simpa using h⟩
    · rintro ⟨i, h1, h2⟩
      by_cases hi : i = n
      · subst hi; right; simpa using h2
      · left; exact ⟨i, by omega, h2⟩
theorem KI.keepQ {S : sp} {c : Nat} {m : Int32} (h : KI S c) (hq : ¬ (q_bh S m (S.1 2 0 0) = false ∨ m ≤ S.2 0 0 0)) : S.2 0 0 0 < m ∧ 0 ≤ m ∧ m ≤ 1000000 := by
  have h1 : q_bh S m (S.1 2 0 0) = true := by
    cases hb : q_bh S m (S.1 2 0 0) with
    | true => rfl
    | false => exact absurd (Or.inl hb) hq
  obtain ⟨i, i1, i2⟩ := q_bh_ex.mp h1
  obtain ⟨z1, z2, -⟩ := h.1.2.2.2.2.2.2.2.1 i i1
  rw [i2] at z1 z2
  exact ⟨Int32.not_le.mp (fun q => hq (Or.inr q)), z1, z2⟩
theorem KI.keep {S : sp} {c : Nat} {m : Int32} (h : KI S c) (hc : c < 100) : KI (sp_keep S m).2 (c + 1) := by
  unfold sp_keep
  split
  · exact h.mono
  · rename_i hq
    obtain ⟨m1, m2, m3⟩ := h.keepQ hq
    split
    · exact h.mono
    · split
      · rename_i ht
        exact (h.mono.kept (by omega) (by have := h.1.2.1; omega) (Or.inl rfl) m1 m3 ht (Or.inl ⟨rfl, rfl⟩)).shown
      · rename_i ht
        exact h.mono.recF (by simpa using ht)
theorem KI.end {S : sp} {c : Nat} {m : Int32} (h : KI S c) (hc : c < 100) : KI (sp_end S m).2 (c + 1) := by
  unfold sp_end
  split
  · exact h.mono
  · rename_i hb
    have hb0 : sp_bars S m = 0 := Classical.byContradiction hb
    obtain ⟨k1, k2, k3, k4, k5⟩ := h.bar hc hb0
    split
    · exact k1
    · split
      · rename_i ht
        exact (k1.kept (by omega) (by omega) (Or.inr rfl) (by rw [k4]; exact (h.1.bars_lt hb0).1) (bars_0 hb0).2.1 ht (Or.inr ⟨rfl, rfl⟩)).shown
      · rename_i ht
        exact k1.recF (by simpa using ht)
theorem drop_nb {m : Int32} : ∀ (c : Nat) (S : sp), S.1 2 0 0 = c → (sp_drop m c S).1 2 0 0 ≤ c ∧ ∀ i, (sp_drop m c S).1 2 0 0 ≤ i → i < c → m ≤ S.2 5 i 0 := by
  intro c
  induction c with
  | zero => intro S h; exact ⟨Nat.le_of_eq h, fun i _ hi => by omega⟩
  | succ c ih =>
    intro S h
    unfold sp_drop
    split
    · rename_i hm
      obtain ⟨i1, i2⟩ := ih (sN S 2 0 0 c) (by simp [sN_1])
      refine ⟨by omega, fun i h1 h2 => ?_⟩
      by_cases hi : i = c
      · subst hi; exact hm
      · exact i2 i h1 (by omega)
    · exact ⟨Nat.le_of_eq h, fun i h1 h2 => by omega⟩
theorem KJ.drop {S : sp} {c : Nat} (h : KJ S c) (m : Int32) : KJ (sp_drop m (S.1 2 0 0) S) c := by
  obtain ⟨d1, d2⟩ := drop_nb (m := m) (S.1 2 0 0) S rfl
  obtain ⟨e1, e2⟩ := sp_drop_keep (m := m) (S.1 2 0 0) S
  obtain ⟨a1, a2, a3, a4, a5, a6, a7, a8, a9, a10, a11⟩ := h
  have j1 := a1.drop m (S.1 2 0 0)
  obtain ⟨T, hT⟩ : ∃ T, T = sp_drop m (S.1 2 0 0) S := ⟨_, rfl⟩
  rw [← hT] at d1 d2 e1 e2 j1 ⊢
  clear hT
  have hPD : PD T = PD S := PD_same (e1 1 0 0 (by decide)) (fun o => e1 5 o 0 (by decide)) (fun o p => e1 11 o p (by decide))
  refine ⟨j1, ?_, by omega, by rw [e2]; exact a4, fun o => by rw [e1 4 o 0 (by decide)]; exact a5 o, fun o j ho hj => by rw [e2]; rw [e1 4 o 0 (by decide)] at hj; exact a6 o j ho hj, fun o ho => by rw [e2, e1 4 o 0 (by decide)]; rw [e1 0 0 0 (by decide)] at ho; exact a7 o ho, fun i hi => ?_, by rw [e2]; exact a9, fun o ho => by rw [e2]; rw [e1 0 0 0 (by decide)] at ho; exact a10 o ho, by rw [e1 3 0 0 (by decide)]; exact a11.1, fun r hr => by rw [e1 7 r 0 (by decide), e1 8 r 0 (by decide), e1 0 0 0 (by decide), e1 6 _ 0 (by decide), e2]; rw [e1 3 0 0 (by decide)] at hr; exact a11.2 r hr⟩
  · unfold PH at a2 ⊢
    rw [hPD, e1 4 0 0 (by decide), e1 4 1 0 (by decide), e1 4 2 0 (by decide)]
    exact a2
  · rw [e2]
    obtain ⟨z1, z2, z3⟩ := a8 i (by omega)
    exact ⟨z1, z2, fun q => z3 (by omega)⟩
theorem KI.give {S : sp} {c : Nat} {m : Int32} (h : KI S c) : KI (sp_giveQ S m).2 (c + 1) := by
  unfold sp_giveQ
  split
  · exact h.mono
  · rename_i hm
    split
    · exact h.mono
    · rename_i hd
      have hlt : S.2 0 0 0 < m := Int32.not_le.mp (fun q => hm (Or.inr (Or.inr q)))
      obtain ⟨j1, j2, j3⟩ := JN.giveL (m := m) (S.1 0 0 0) 0 0 S h.1.1 (Nat.zero_add _) hlt
      have ot := OT.giveL (m := m) (S.1 0 0 0) 0 0 S h.1.1 (Nat.zero_add _) hlt
      unfold sp_give
      cases hL : sp_giveL m (S.1 0 0 0) 0 0 S with
      | mk r T =>
        rw [hL] at j1 j2 j3 ot
        cases r with
        | none => exact (h.st j2 j1 ot).mono
        | some w =>
          simp only at j1 j2 j3 ot ⊢
          have hk := h.st j2 j1 ot
          obtain ⟨d1, d2⟩ := drop_nb (m := m) (T.1 2 0 0) T rfl
          obtain ⟨e1, e2⟩ := sp_drop_keep (m := m) (T.1 2 0 0) T
          refine ⟨(hk.1.drop m).mono, fun hdn o p hp h1 => ?_⟩
          rw [e2] at hdn ⊢
          rw [e1 5 o 0 (by decide)] at hp
          rw [e1 11 o p (by decide)] at h1
          rcases hk.2 hdn o p hp h1 with e | ⟨i, i1, i2⟩
          · exact Or.inl e
          · refine Or.inr ⟨i, Classical.byContradiction fun q => ?_, i2⟩
            have hmi := d2 i (by omega) i1
            rw [i2] at hmi
            have hp5 : p < S.1 5 o 0 := by rw [j2.1 5 o 0 (by omega)] at hp; exact hp
            have hs1 : S.1 11 o p = 1 := Classical.byContradiction fun q => q ((j2.2.2.2.1 o p q).symm.trans h1)
            have ho : o < S.1 0 0 0 := by
              refine Classical.byContradiction fun hn => ?_
              have := (h.1.1.1.2.2.2.1 o (by omega)).1
              omega
            have h13 : T.2 13 o p = S.2 13 o p := j2.2.2.2.2.2.2.2.1 13 o p (by omega)
            rw [h13] at hmi
            exact j3 (by simp) o p hs1 h1 ⟨Nat.zero_le _, ho, hp5, hmi⟩
/-- power stays while nothing is set -/
theorem act_on {S : sp} (h : S.2 0 3 0 = 0) : (sp_act S).1 = true ∧ (sp_act S).2.2 0 3 0 = 0 := by
  unfold sp_act
  rw [h, if_neg (by decide), if_neg (by decide)]
  simp [sV_2]
theorem rec_on {S : sp} {k o p n v : Int32} (h : S.2 0 3 0 = 0) : (sp_rec S k o p n v).1 = true ∧ (sp_rec S k o p n v).2.2 0 3 0 = 0 := by
  obtain ⟨e1, e2⟩ := act_on h
  unfold sp_rec
  rw [if_pos e1]
  refine ⟨rfl, ?_⟩
  simp [sp_app, sN_2, sV_2, e2]
theorem goes_on {o : Nat} {m : Int32} : ∀ (c p w : Nat) (S : sp), S.2 0 3 0 = 0 → (sp_goes o m c p w S).1 ≠ none ∧ (sp_goes o m c p w S).2.2 0 3 0 = 0 := by
  intro c
  induction c with
  | zero => intro p w S h; exact ⟨by simp [sp_goes], h⟩
  | succ c ih =>
    intro p w S h
    unfold sp_goes
    split
    · obtain ⟨e1, e2⟩ := rec_on (k := 4) (o := nI o) (p := nI p) (n := -6) (v := -6) h
      rw [if_pos e1]
      exact ih _ _ _ (by rw [sN_2]; exact e2)
    · exact ih _ _ _ h
theorem openG_lt {m : Int32} : ∀ (c o : Nat) (S : sp), JN S → S.2 0 3 0 = 0 → o + c = S.1 0 0 0 → S.2 0 0 0 < m → ∀ b d, o ≤ b → b < S.1 0 0 0 → d < S.1 5 b 0 → (sp_openG c o m S).1 11 b d = 1 → ¬ m ≤ S.2 13 b d := by
  intro c
  induction c with
  | zero => intro o S _ _ ho _ b d h1 h2; omega
  | succ c ih =>
    intro o S h h0 ho hm b d hb1 hb2 hd he
    unfold sp_openG at he
    obtain ⟨j1, j2, j3⟩ := JN.goes (o := o) (m := m) (S.1 5 o 0) 0 0 S h (by omega) (Nat.zero_add _) hm
    obtain ⟨g1, g2⟩ := goes_on (o := o) (m := m) (S.1 5 o 0) 0 0 S h0
    have hT0 : (sp_goes o m (S.1 5 o 0) 0 0 S).2.1 0 0 0 = S.1 0 0 0 := j2.1 0 0 0 (by omega)
    have hTm : S.2 0 0 0 < m → (sp_goes o m (S.1 5 o 0) 0 0 S).2.2 0 0 0 < m := fun q => by rw [j2.2.2.2.2.2.2.2.2.2.2.2.1 0 0 (by decide) (by decide) (by decide)]; exact q
    obtain ⟨k1, k2⟩ := JN.openG (m := m) c (o + 1) _ j1 (by rw [hT0]; omega) (hTm hm)
    have hT1 : (sp_goes o m (S.1 5 o 0) 0 0 S).2.1 11 b d = 1 := Classical.byContradiction fun q => q ((k2.2.2.2.1 b d q).symm.trans he)
    have hS1 : S.1 11 b d = 1 := Classical.byContradiction fun q => q ((j2.2.2.2.1 b d q).symm.trans hT1)
    by_cases hbo : b = o
    · subst hbo
      exact fun q => (j3 g1).1 b d hS1 hT1 ⟨rfl, Nat.zero_le _, hd, q⟩
    · have := ih (o + 1) _ j1 g2 (by rw [hT0]; omega) (hTm hm) b d (by omega) (by rw [hT0]; exact hb2) (by rw [j2.1 5 b 0 (by omega)]; exact hd) he
      rw [j2.2.2.2.2.2.2.2.1 13 b d (by omega)] at this
      exact this
theorem mark_succ {S : sp} (h : JN S) : (S.2 0 0 0 + 1).toInt = (S.2 0 0 0).toInt + 1 ∧ S.2 0 0 0 < S.2 0 0 0 + 1 := by
  have h1 := i_le.mp h.1.2.2.2.2.2.2.2.1
  have h2 := i_le.mp h.1.2.2.2.2.2.2.2.2
  have z1 : (1 : Int32).toInt = 1 := rfl
  have zm : (1000000 : Int32).toInt = 1000000 := rfl
  rw [nm_m6] at h1
  rw [zm] at h2
  have : (S.2 0 0 0 + 1).toInt = (S.2 0 0 0).toInt + 1 := by
    rw [Int32.toInt_add, z1]
    apply Int.bmod_eq_of_le <;> omega
  exact ⟨this, by rw [i_lt]; omega⟩
/-- opened again: first all but the showing -/
def sp_op1 (S : sp) : sp := sp_openG (S.1 0 0 0) 0 (S.2 0 0 0 + 1) (sp_drop (S.2 0 0 0 + 1) (S.1 2 0 0) (sp_up S))
theorem KI.op1 {S : sp} {c : Nat} (h : KI S c) : KI (sp_op1 S) c ∧ S.1 1 0 0 ≤ (sp_op1 S).1 1 0 0 := by
  obtain ⟨⟨a1, a2, a3, a4, a5, a6, a7, a8, a9, a10, a11⟩, hkl⟩ := id h
  have hU := a1.up
  obtain ⟨U, hUe⟩ : ∃ U, U = sp_up S := ⟨_, rfl⟩
  have uN : ∀ a b d, a ≠ 4 → U.1 a b d = S.1 a b d := fun a b d q => by rw [hUe]; unfold sp_up; rw [sE_1, if_neg q]; rfl
  have u4 : ∀ b d, U.1 4 b d = 0 := fun b d => by rw [hUe]; unfold sp_up; rw [sE_1, if_pos rfl]
  have uV : ∀ a b d, a ≠ 0 → U.2 a b d = S.2 a b d := fun a b d q => by rw [hUe]; simp [sp_up, sE_2, sV_2, q]
  have uV0 : ∀ b d, b ≠ 2 → b ≠ 3 → U.2 0 b d = S.2 0 b d := fun b d q1 q2 => by rw [hUe]; simp [sp_up, sE_2, sV_2, q1, q2]
  have u2 : U.2 0 2 0 = 0 := by rw [hUe]; simp [sp_up, sE_2, sV_2]
  have u3 : U.2 0 3 0 = 0 := by rw [hUe]; simp [sp_up, sE_2, sV_2]
  have hkU : KJ U c := by
    rw [← hUe] at hU
    refine ⟨hU, ?_, by rw [uN 2 0 0 (by decide)]; exact a3, by rw [uV0 5 0 (by decide) (by decide)]; exact a4, fun o => by rw [u4]; omega, fun o j ho hj => by rw [u4] at hj; omega, fun o ho => ?_, fun i hi => by rw [uV 5 i 0 (by decide), uV 5 (i + 1) 0 (by decide), uN 2 0 0 (by decide)]; rw [uN 2 0 0 (by decide)] at hi; exact a8 i hi, Or.inl u2, fun o ho => by rw [uV 1 o 0 (by decide), uV 1 o 2 (by decide)]; rw [uN 0 0 0 (by decide)] at ho; exact a10 o ho, by rw [uN 3 0 0 (by decide)]; exact a11.1, fun r hr => by rw [uN 7 r 0 (by decide), uN 8 r 0 (by decide), uN 0 0 0 (by decide), uN 6 _ 0 (by decide), uV 1 _ 0 (by decide)]; rw [uN 3 0 0 (by decide)] at hr; exact a11.2 r hr⟩
    · unfold PH at a2 ⊢
      rw [u4, u4, u4, PD_same (uN 1 0 0 (by decide)) (fun o => uN 5 o 0 (by decide)) (fun o p => uN 11 o p (by decide))]
      omega
    · rw [uN 0 0 0 (by decide)] at ho
      obtain ⟨z1, z2, z3, z4⟩ := a7 o ho
      refine ⟨u4 o 0, by rw [uV 1 o 1 (by decide)]; exact z2, by rw [uV 1 o 2 (by decide)]; exact z3, fun y hy => ?_⟩
      rw [uV 10 o y (by decide), uV 11 o y (by decide), uV 12 o y (by decide)]
      exact z4 y hy
  have hkD : KJ (sp_drop (S.2 0 0 0 + 1) (S.1 2 0 0) U) c := by
    have := hkU.drop (S.2 0 0 0 + 1)
    rw [uN 2 0 0 (by decide)] at this
    exact this
  obtain ⟨e1, e2⟩ := sp_drop_keep (m := S.2 0 0 0 + 1) (S.1 2 0 0) U
  unfold sp_op1
  rw [← hUe]
  obtain ⟨D, hD⟩ : ∃ D, D = sp_drop (S.2 0 0 0 + 1) (S.1 2 0 0) U := ⟨_, rfl⟩
  rw [← hD] at hkD e1 e2 ⊢
  clear hD hUe
  have D0 : D.1 0 0 0 = S.1 0 0 0 := by rw [e1 0 0 0 (by decide), uN 0 0 0 (by decide)]
  have Dm : D.2 0 0 0 = S.2 0 0 0 := by rw [e2, uV0 0 0 (by decide) (by decide)]
  have D3 : D.2 0 3 0 = 0 := by rw [e2]; exact u3
  obtain ⟨m1, m2⟩ := mark_succ a1
  obtain ⟨g1, g2⟩ := JN.openG (m := S.2 0 0 0 + 1) (S.1 0 0 0) 0 D hkD.1 (by rw [D0]; omega) (by rw [Dm]; exact m2)
  have ot := OT.openG (m := S.2 0 0 0 + 1) (S.1 0 0 0) 0 D hkD.1 (by rw [D0]; omega) (by rw [Dm]; exact m2)
  refine ⟨⟨hkD.st g2 g1 ot, fun _ o p hp h1 => Or.inl ?_⟩, ?_⟩
  · rw [g2.1 5 o 0 (by omega)] at hp
    have ho : o < D.1 0 0 0 := by
      refine Classical.byContradiction fun hn => ?_
      have := (hkD.1.1.2.2.2.1 o (by omega)).1
      omega
    have := openG_lt (m := S.2 0 0 0 + 1) (S.1 0 0 0) 0 D hkD.1 D3 (by rw [D0]; omega) (by rw [Dm]; exact m2) o p (Nat.zero_le _) ho hp h1
    rw [g2.2.2.2.2.2.2.2.1 13 o p (by omega), g2.2.2.2.2.2.2.2.2.2.2.2.1 0 0 (by decide) (by decide) (by decide), Dm]
    have := i_lt.mp (Int32.not_le.mp this)
    rw [i_le]
    omega
  · have := g2.2.2.2.2.1
    rw [e1 1 0 0 (by decide), uN 1 0 0 (by decide)] at this
    exact this
theorem KI.opn {S : sp} {c : Nat} (h : KI S c) : KI (sp_open S).2 (c + 1) := h.op1.1.shown.mono
