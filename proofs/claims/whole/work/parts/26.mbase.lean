/-! The model: act, record, and what is read off the records. -/
theorem ml_lt (j : Nat) : ml j < 2 ^ 31 := by
  unfold ml
  split <;> decide
section MB
variable {M n s : Nat} {mem : Nat → am_C} {h : am_H} {f : Nat → Int32} {F : Nat → Nat → Int32} {S : sp} {pd : Int32}
theorem MV.g (hv : MV M n s mem h f F) (k : Nat) : am_g1 h M 9 k = (mo M f)[k]? := by
  unfold am_g1
  rw [hv.2.2.1]
  simp
theorem MV.w (hv : MV M n s mem h f F) (k : Nat) (hk : k < 34) (v : Value) : am_p1 h M 9 k v = some (ah_put h M (ac_O 9 ((mo M f).set k v))) := by
  unfold am_p1
  rw [hv.2.2.1]
  simp [mo_len, hk]
theorem MV.c (hv : MV M n s mem h f F) : am_cls h M = some 9 := by
  unfold am_cls
  rw [hv.2.2.1]
theorem MV.ld (hv : MV M n s mem h f F) (j : Nat) (h1 : 1 ≤ j) (h2 : j ≤ 23) {q : Nat} (hq : q < ml j) : am_iald h (M + j) (nI q) = some (F j q) := iald_I (hv.at j h1 h2) hq (ml_lt j)
theorem MV.st (hv : MV M n s mem h f F) (j : Nat) (h1 : 1 ≤ j) (h2 : j ≤ 23) {q : Nat} (hq : q < ml j) (x : Int32) : am_iast h (M + j) (nI q) x = some (ah_put h (M + j) (ac_I (ml j) (upd (F j) q x))) := iast_I (hv.at j h1 h2) hq (ml_lt j)
theorem k_empty (P : Nat × Nat) (hv : MV M n s mem h f F) : ∃ h' F', am_E P 77 0 [some (.ref M), none] [] h = some (none, h') ∧ MV M n s mem h' f F' ∧ (∀ j, j ≠ 2 → F' j = F j) ∧ (∀ o, o < 3 → F' 2 o = 0) := by
  have loop : ∀ k i, i + k = 3 → ∀ h F, MV M n s mem h f F → ∃ h' F', am_E P 77 2 [some (.ref M), some (.int (nI i))] [] h = some (none, h') ∧ MV M n s mem h' f F' ∧ (∀ j, j ≠ 2 → F' j = F j) ∧ (∀ o, o < 3 → F' 2 o = if i ≤ o then 0 else F 2 o) := by
    intro k
    induction k with
    | zero =>
      intro i hi h F hv
      obtain rfl : i = 3 := by omega
      refine ⟨h, F, ?_, hv, fun _ _ => rfl, fun o ho => by rw [if_neg (by omega)]⟩
      have c3 : (3 : Int32) ≤ nI 3 := by decide
      rw [hd77_2]
      simp only [r77, if_pos c3]
    | succ k ih =>
      intro i hi h F hv
      obtain ⟨h', F', e1, e2, e3, e4⟩ := ih (i + 1) (by omega) _ _ (hv.a 2 (by decide) (by decide) i 0)
      refine ⟨h', F', ?_, e2, fun j hj => ?_, fun o ho => ?_⟩
      · have c : ¬ (3 : Int32) ≤ nI i := nI_ge (a := i) (b := 3) (by omega) (by decide)
        rw [hd77_2]
        simp only [r77, if_neg c, hv.g, mo_g, Option.bind_some, hv.st 2 (by decide) (by decide) (q := i) (show i < 3 by omega), nI_1]
        exact e1
      · rw [e3 j hj]; simp [va_up, hj]
      · rw [e4 o ho]
        by_cases h1 : i + 1 ≤ o
        · rw [if_pos h1, if_pos (by omega)]
        · rw [if_neg h1]
          by_cases h2 : o = i
          · subst h2; simp [va_up, upd]
          · rw [if_neg (by omega)]; simp [va_up, upd, h2]
  obtain ⟨h', F', e1, e2, e3, e4⟩ := loop 3 0 rfl h F hv
  refine ⟨h', F', ?_, e2, e3, fun o ho => by rw [e4 o ho, if_pos (Nat.zero_le _)]⟩
  simp only [r77]
  exact e1
/-- act: as the pure state's -/
theorem k_act (P : Nat × Nat) (hs : MS M n s mem pd h S) (hl : S.2 0 3 0 = 0 ∨ 0 < S.2 0 3 0) : ∃ h', am_E P 76 0 [some (.ref M)] [] h = some (some (.int (if (sp_act S).1 = true then 1 else 0)), h') ∧ MS M n s mem pd h' (sp_act S).2 := by
  obtain ⟨f, F, hv, ⟨f1, f2, f3, f4, f5, f6, f7, f8, f9, f10⟩, hF, hpd⟩ := hs
  generalize hx : S.2 0 3 0 = x at *
  by_cases h0 : x = 0
  · -- power stays
    subst h0
    have e31 : f 31 = -6 := by rw [f9]; rfl
    have hact : sp_act S = (true, sV (sV S 0 3 0 0) 0 4 0 (S.2 0 4 0 + 1)) := by
      unfold sp_act
      rw [hx, if_neg (by decide), if_neg (by decide)]
    rw [hact]
    refine ⟨_, ?_, va_up f 32 (f 32 + 1), F, hv.p 32 (f 32 + 1), ?_, ?_, by simpa [va_up] using hpd⟩
    · simp only [r76, hv.g, mo_g, Option.bind_some, e31, if_true, hv.w 32 (by decide), mo_s]
      simp
    · simp [m_f, m_l, va_up, sV_1, sV_2, f1, f2, f3, f4, f5, f6, f7, f8, f10, e31]
    · simpa [m_F, sV_1, sV_2] using hF
  · have e31 : f 31 = x := by rw [f9]; simp [m_l, h0]
    have hpos : 0 < x := by rcases hl with h9 | h9; exact absurd h9 h0; exact h9
    have hne : ¬ x = -6 := by rintro rfl; exact absurd hpos (by decide)
    by_cases h1 : x = 1
    · subst h1
      have hact : sp_act S = (false, sE (sV (sV S 0 3 0 0) 0 2 0 1)) := by
        unfold sp_act
        rw [hx, if_pos rfl]
      rw [hact]
      have v1 := hv.p 31 0
      have v2 := v1.p 31 (-6)
      have v3 := v2.p 30 1
      obtain ⟨h', F', e1, e2, e3, e4⟩ := k_empty P v3
      refine ⟨h', ?_, _, F', e2, ?_, ?_, by simpa [va_up] using hpd⟩
      · have z : f 31 - 1 = 0 := by rw [e31]; rfl
        have hne' : ¬ f 31 = -6 := by rw [e31]; decide
        simp only [r76, hv.g, mo_g, Option.bind_some, if_neg hne', z, hv.w 31 (by decide), mo_s, v1.g, va_up_self, if_true, v1.w 31 (by decide), v2.w 30 (by decide), v3.c]
        simp [e1, r76]
      · simp [m_f, m_l, va_up, sV_1, sV_2, sE_1, sE_2, f1, f2, f3, f4, f5, f6, f7, f10]
      · obtain ⟨g1, g2, g3, g4, g5, g6, g7⟩ := hF
        refine ⟨fun o ho => ?_, ?_, ?_, ?_, ?_, ?_, ?_⟩
        · obtain ⟨a1, a2, a3, a4, a5, a6⟩ := g1 o ho
          rw [e3 1 (by decide), e3 5 (by decide), e3 6 (by decide), e3 7 (by decide), e3 13 (by decide), e4 o ho]
          simpa [sE_1, sE_2, sV_1, sV_2] using ⟨a1, rfl, a3, a4, a5, a6⟩
        · rw [e3 3 (by decide), e3 4 (by decide)]; simpa [sE_1, sE_2, sV_1, sV_2] using g2
        · rw [e3 8 (by decide), e3 9 (by decide), e3 10 (by decide), e3 11 (by decide), e3 12 (by decide)]; simpa [sE_1, sE_2, sV_1, sV_2] using g3
        · rw [e3 14 (by decide), e3 15 (by decide), e3 16 (by decide), e3 17 (by decide)]; simpa [sE_1, sE_2, sV_1, sV_2] using g4
        · rw [e3 18 (by decide), e3 19 (by decide), e3 20 (by decide)]; simpa [sE_1, sE_2, sV_1, sV_2] using g5
        · rw [e3 21 (by decide), e3 22 (by decide)]; simpa [sE_1, sE_2, sV_1, sV_2] using g6
        · rw [e3 23 (by decide)]; simpa [sE_1, sE_2, sV_1, sV_2] using g7
    · have h1x : 1 < x := by
        rw [i_lt] at hpos ⊢
        have : x.toInt ≠ 1 := fun q => h1 (Int32.toInt.inj q)
        have z0 : (0 : Int32).toInt = 0 := rfl
        have z1 : (1 : Int32).toInt = 1 := rfl
        omega
      have hact : sp_act S = (true, sV (sV S 0 3 0 (x - 1)) 0 4 0 (S.2 0 4 0 + 1)) := by
        unfold sp_act
        rw [hx, if_neg h1, if_pos h1x]
      rw [hact]
      have hx1 : ¬ x - 1 = 0 := by
        intro q
        apply h1
        have := congrArg (· + 1) q
        simpa using this
      have v1 := hv.p 31 (x - 1)
      refine ⟨_, ?_, _, F, v1.p 32 (f 32 + 1), ?_, ?_, by simpa [va_up] using hpd⟩
      · simp only [r76, hv.g, mo_g, Option.bind_some, e31, if_neg hne, hv.w 31 (by decide), mo_s]
        simp only [v1.g, mo_g, va_up, if_true, Option.bind_some, if_neg hx1, r76, v1.w 32 (by decide), mo_s]
        simp
      · simp [m_f, m_l, va_up, sV_1, sV_2, f1, f2, f3, f4, f5, f6, f7, f8, f10, hx1]
      · simpa [m_F, sV_1, sV_2] using hF
end MB
