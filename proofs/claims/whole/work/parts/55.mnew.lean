/-! The model at birth. -/
def S0 : sp := (fun _ _ _ => 0, fun a b c => if a = 0 ∧ b = 0 ∧ c = 0 then -6 else if a = 10 then -6 else 0)
def vl (g : Nat → Value) : List Value := g 0 :: g 1 :: g 2 :: g 3 :: g 4 :: g 5 :: g 6 :: g 7 :: g 8 :: g 9 :: g 10 :: g 11 :: g 12 :: g 13 :: g 14 :: g 15 :: g 16 :: g 17 :: g 18 :: g 19 :: g 20 :: g 21 :: g 22 :: g 23 :: g 24 :: g 25 :: g 26 :: g 27 :: g 28 :: g 29 :: g 30 :: g 31 :: g 32 :: g 33 :: []
theorem vl_set (g : Nat → Value) (v : Value) : (vl g).set 1 v = vl (va_up g 1 v) ∧ (vl g).set 2 v = vl (va_up g 2 v) ∧ (vl g).set 3 v = vl (va_up g 3 v) ∧ (vl g).set 4 v = vl (va_up g 4 v) ∧ (vl g).set 5 v = vl (va_up g 5 v) ∧ (vl g).set 6 v = vl (va_up g 6 v) ∧ (vl g).set 7 v = vl (va_up g 7 v) ∧ (vl g).set 9 v = vl (va_up g 9 v) ∧ (vl g).set 10 v = vl (va_up g 10 v) ∧ (vl g).set 11 v = vl (va_up g 11 v) ∧ (vl g).set 12 v = vl (va_up g 12 v) ∧ (vl g).set 13 v = vl (va_up g 13 v) ∧ (vl g).set 14 v = vl (va_up g 14 v) ∧ (vl g).set 15 v = vl (va_up g 15 v) ∧ (vl g).set 16 v = vl (va_up g 16 v) ∧ (vl g).set 17 v = vl (va_up g 17 v) ∧ (vl g).set 18 v = vl (va_up g 18 v) ∧ (vl g).set 19 v = vl (va_up g 19 v) ∧ (vl g).set 20 v = vl (va_up g 20 v) ∧ (vl g).set 21 v = vl (va_up g 21 v) ∧ (vl g).set 23 v = vl (va_up g 23 v) ∧ (vl g).set 24 v = vl (va_up g 24 v) ∧ (vl g).set 25 v = vl (va_up g 25 v) ∧ (vl g).set 26 v = vl (va_up g 26 v) ∧ (vl g).set 31 v = vl (va_up g 31 v) := ⟨rfl, rfl, rfl, rfl, rfl, rfl, rfl, rfl, rfl, rfl, rfl, rfl, rfl, rfl, rfl, rfl, rfl, rfl, rfl, rfl, rfl, rfl, rfl, rfl, rfl⟩
def CN (M j s : Nat) (g : Nat → Value) (mem : Nat → am_C) (h : am_H) : Prop := h.1 = M + 1 + j ∧ h.2.1 = s ∧ h.2.2 M = ac_O 9 (vl g) ∧ (∀ i, 1 ≤ i → i ≤ j → h.2.2 (M + i) = ac_I (ml i) (fun _ => 0)) ∧ (∀ a, a < M ∨ M + j < a → h.2.2 a = mem a)
theorem CN.step {M j s : Nat} {g : Nat → Value} {mem : Nat → am_C} {h : am_H} (hc : CN M j s g mem h) (k n : Nat) (hk : k < 34) (hn : ml (j + 1) = n) (hs : ∀ v, (vl g).set k v = vl (va_up g k v)) : ∃ h', am_p1 (ah_new h n (ac_I n (fun _ => 0))) M 9 k (.ref h.1) = some h' ∧ CN M (j + 1) (s + n) (va_up g k (.ref (M + (j + 1)))) mem h' := by
  obtain ⟨h1, h2, h3, h5, h6⟩ := hc
  have h4 : (vl g).length = 34 := rfl
  have e : (ah_new h n (ac_I n (fun _ => 0))).2.2 M = ac_O 9 (vl g) := by rw [an_ne (by omega)]; exact h3
  refine ⟨ah_put (ah_new h n (ac_I n (fun _ => 0))) M (ac_O 9 ((vl g).set k (.ref h.1))), ?_, ?_, ?_, ?_, fun i i1 i2 => ?_, fun a ha => ?_⟩
  · unfold am_p1
    rw [e]
    simp [h4, hk]
  · rw [ah_p1, an_p1, h1]; omega
  · rw [ah_p2, an_p2, h2]
  · rw [ah_same, h1, hs]
    rw [show M + 1 + j = M + (j + 1) by omega]
  · rw [ah_ne (by omega)]
    by_cases hi : i = j + 1
    · subst hi
      rw [show M + (j + 1) = h.1 by omega, an_same, hn]
    · rw [an_ne (by omega)]
      exact h5 i i1 (by omega)
  · rw [ah_ne (by omega), an_ne (by omega)]
    exact h6 a (by omega)
theorem CN.put {M j s : Nat} {g : Nat → Value} {mem : Nat → am_C} {h : am_H} (hc : CN M j s g mem h) (k : Nat) (hk : k < 34) (v : Value) (hs : ∀ v, (vl g).set k v = vl (va_up g k v)) : ∃ h', am_p1 h M 9 k v = some h' ∧ CN M j s (va_up g k v) mem h' := by
  obtain ⟨h1, h2, h3, h5, h6⟩ := hc
  have h4 : (vl g).length = 34 := rfl
  refine ⟨ah_put h M (ac_O 9 ((vl g).set k v)), ?_, h1, h2, by rw [ah_same, hs], fun i i1 i2 => ?_, fun a ha => ?_⟩
  · unfold am_p1
    rw [h3]
    simp [h4, hk]
  · rw [ah_ne (by omega)]; exact h5 i i1 i2
  · rw [ah_ne (by omega)]; exact h6 a ha
theorem nw_n3 : ¬ ((3 : Int32).toInt < 0 ∨ 1000000 < (3 : Int32).toInt) := by decide
theorem nw_e3 : (3 : Int32).toNatClampNeg = 3 := by decide
theorem nw_n60 : ¬ ((60 : Int32).toInt < 0 ∨ 1000000 < (60 : Int32).toInt) := by decide
theorem nw_e60 : (60 : Int32).toNatClampNeg = 60 := by decide
theorem nw_n4000 : ¬ ((4000 : Int32).toInt < 0 ∨ 1000000 < (4000 : Int32).toInt) := by decide
theorem nw_e4000 : (4000 : Int32).toNatClampNeg = 4000 := by decide
theorem nw_n6000 : ¬ ((6000 : Int32).toInt < 0 ∨ 1000000 < (6000 : Int32).toInt) := by decide
theorem nw_e6000 : (6000 : Int32).toNatClampNeg = 6000 := by decide
theorem nw_n30 : ¬ ((30 : Int32).toInt < 0 ∨ 1000000 < (30 : Int32).toInt) := by decide
theorem nw_e30 : (30 : Int32).toNatClampNeg = 30 := by decide
theorem nw_n4 : ¬ ((4 : Int32).toInt < 0 ∨ 1000000 < (4 : Int32).toInt) := by decide
theorem nw_e4 : (4 : Int32).toNatClampNeg = 4 := by decide
theorem nw_n201 : ¬ ((201 : Int32).toInt < 0 ∨ 1000000 < (201 : Int32).toInt) := by decide
theorem nw_e201 : (201 : Int32).toNatClampNeg = 201 := by decide

def g9 (k : Nat) : Value := if k = 0 ∨ k = 8 ∨ k = 22 ∨ k = 25 ∨ 27 ≤ k then .int 0 else .null
theorem df9 : p_df 9 = vl g9 := rfl
theorem nm_s0 (P : Nat × Nat) (M : Nat) (h : am_H) : am_E P 71 4 [some (.ref M), none] [] h = if (3 : Int32).toInt < 0 ∨ 1000000 < (3 : Int32).toInt then none else (am_p1 (ah_new h (3 : Int32).toNatClampNeg (ac_I (3 : Int32).toNatClampNeg (fun _ => 0))) M 9 1 (.ref h.1)).bind (fun h => am_E P 71 11 [some (.ref M), none] [] h) := by
  rw [r71.2.2.2.1, r71.2.2.2.2.2.1, r71.2.2.2.2.2.2.1, r71.2.2.2.2.2.2.2.1]
theorem nm_s1 (P : Nat × Nat) (M : Nat) (h : am_H) : am_E P 71 11 [some (.ref M), none] [] h = if (3 : Int32).toInt < 0 ∨ 1000000 < (3 : Int32).toInt then none else (am_p1 (ah_new h (3 : Int32).toNatClampNeg (ac_I (3 : Int32).toNatClampNeg (fun _ => 0))) M 9 2 (.ref h.1)).bind (fun h => am_E P 71 18 [some (.ref M), none] [] h) := by
  rw [r71.2.2.2.2.2.2.2.2.1, r71.2.2.2.2.2.2.2.2.2.2.1, r71.2.2.2.2.2.2.2.2.2.2.2.1, r71.2.2.2.2.2.2.2.2.2.2.2.2.1]
theorem nm_s2 (P : Nat × Nat) (M : Nat) (h : am_H) : am_E P 71 18 [some (.ref M), none] [] h = if (60 : Int32).toInt < 0 ∨ 1000000 < (60 : Int32).toInt then none else (am_p1 (ah_new h (60 : Int32).toNatClampNeg (ac_I (60 : Int32).toNatClampNeg (fun _ => 0))) M 9 3 (.ref h.1)).bind (fun h => am_E P 71 26 [some (.ref M), none] [] h) := by
  rw [r71.2.2.2.2.2.2.2.2.2.2.2.2.2.1, r71.2.2.2.2.2.2.2.2.2.2.2.2.2.2.2.1, r71.2.2.2.2.2.2.2.2.2.2.2.2.2.2.2.2.1, r71.2.2.2.2.2.2.2.2.2.2.2.2.2.2.2.2.2.1]
theorem nm_s3 (P : Nat × Nat) (M : Nat) (h : am_H) : am_E P 71 26 [some (.ref M), none] [] h = if (60 : Int32).toInt < 0 ∨ 1000000 < (60 : Int32).toInt then none else (am_p1 (ah_new h (60 : Int32).toNatClampNeg (ac_I (60 : Int32).toNatClampNeg (fun _ => 0))) M 9 4 (.ref h.1)).bind (fun h => am_E P 71 34 [some (.ref M), none] [] h) := by
  rw [r71.2.2.2.2.2.2.2.2.2.2.2.2.2.2.2.2.2.2.1, r71.2.2.2.2.2.2.2.2.2.2.2.2.2.2.2.2.2.2.2.2.1, r71.2.2.2.2.2.2.2.2.2.2.2.2.2.2.2.2.2.2.2.2.2.1, r71.2.2.2.2.2.2.2.2.2.2.2.2.2.2.2.2.2.2.2.2.2.2.1]
theorem nm_s4 (P : Nat × Nat) (M : Nat) (h : am_H) : am_E P 71 34 [some (.ref M), none] [] h = if (3 : Int32).toInt < 0 ∨ 1000000 < (3 : Int32).toInt then none else (am_p1 (ah_new h (3 : Int32).toNatClampNeg (ac_I (3 : Int32).toNatClampNeg (fun _ => 0))) M 9 5 (.ref h.1)).bind (fun h => am_E P 71 41 [some (.ref M), none] [] h) := by
  rw [r71.2.2.2.2.2.2.2.2.2.2.2.2.2.2.2.2.2.2.2.2.2.2.2.1, r71.2.2.2.2.2.2.2.2.2.2.2.2.2.2.2.2.2.2.2.2.2.2.2.2.2.1, r71.2.2.2.2.2.2.2.2.2.2.2.2.2.2.2.2.2.2.2.2.2.2.2.2.2.2.1, r71.2.2.2.2.2.2.2.2.2.2.2.2.2.2.2.2.2.2.2.2.2.2.2.2.2.2.2.1]
theorem nm_s5 (P : Nat × Nat) (M : Nat) (h : am_H) : am_E P 71 41 [some (.ref M), none] [] h = if (3 : Int32).toInt < 0 ∨ 1000000 < (3 : Int32).toInt then none else (am_p1 (ah_new h (3 : Int32).toNatClampNeg (ac_I (3 : Int32).toNatClampNeg (fun _ => 0))) M 9 6 (.ref h.1)).bind (fun h => am_E P 71 48 [some (.ref M), none] [] h) := by
  rw [r71.2.2.2.2.2.2.2.2.2.2.2.2.2.2.2.2.2.2.2.2.2.2.2.2.2.2.2.2.1, r71.2.2.2.2.2.2.2.2.2.2.2.2.2.2.2.2.2.2.2.2.2.2.2.2.2.2.2.2.2.2.1, r71.2.2.2.2.2.2.2.2.2.2.2.2.2.2.2.2.2.2.2.2.2.2.2.2.2.2.2.2.2.2.2.1, r71.2.2.2.2.2.2.2.2.2.2.2.2.2.2.2.2.2.2.2.2.2.2.2.2.2.2.2.2.2.2.2.2.1]
theorem nm_s6 (P : Nat × Nat) (M : Nat) (h : am_H) : am_E P 71 48 [some (.ref M), none] [] h = if (3 : Int32).toInt < 0 ∨ 1000000 < (3 : Int32).toInt then none else (am_p1 (ah_new h (3 : Int32).toNatClampNeg (ac_I (3 : Int32).toNatClampNeg (fun _ => 0))) M 9 7 (.ref h.1)).bind (fun h => am_E P 71 55 [some (.ref M), none] [] h) := by
  rw [r71.2.2.2.2.2.2.2.2.2.2.2.2.2.2.2.2.2.2.2.2.2.2.2.2.2.2.2.2.2.2.2.2.2.1, r71.2.2.2.2.2.2.2.2.2.2.2.2.2.2.2.2.2.2.2.2.2.2.2.2.2.2.2.2.2.2.2.2.2.2.2.1, r71.2.2.2.2.2.2.2.2.2.2.2.2.2.2.2.2.2.2.2.2.2.2.2.2.2.2.2.2.2.2.2.2.2.2.2.2.1, r71.2.2.2.2.2.2.2.2.2.2.2.2.2.2.2.2.2.2.2.2.2.2.2.2.2.2.2.2.2.2.2.2.2.2.2.2.2.1]
theorem nm_s7 (P : Nat × Nat) (M : Nat) (h : am_H) : am_E P 71 55 [some (.ref M), none] [] h = if (4000 : Int32).toInt < 0 ∨ 1000000 < (4000 : Int32).toInt then none else (am_p1 (ah_new h (4000 : Int32).toNatClampNeg (ac_I (4000 : Int32).toNatClampNeg (fun _ => 0))) M 9 9 (.ref h.1)).bind (fun h => am_E P 71 64 [some (.ref M), none] [] h) := by
  rw [r71.2.2.2.2.2.2.2.2.2.2.2.2.2.2.2.2.2.2.2.2.2.2.2.2.2.2.2.2.2.2.2.2.2.2.2.2.2.2.1, r71.2.2.2.2.2.2.2.2.2.2.2.2.2.2.2.2.2.2.2.2.2.2.2.2.2.2.2.2.2.2.2.2.2.2.2.2.2.2.2.2.1, r71.2.2.2.2.2.2.2.2.2.2.2.2.2.2.2.2.2.2.2.2.2.2.2.2.2.2.2.2.2.2.2.2.2.2.2.2.2.2.2.2.2.1, r71.2.2.2.2.2.2.2.2.2.2.2.2.2.2.2.2.2.2.2.2.2.2.2.2.2.2.2.2.2.2.2.2.2.2.2.2.2.2.2.2.2.2.1]
theorem nm_s8 (P : Nat × Nat) (M : Nat) (h : am_H) : am_E P 71 64 [some (.ref M), none] [] h = if (4000 : Int32).toInt < 0 ∨ 1000000 < (4000 : Int32).toInt then none else (am_p1 (ah_new h (4000 : Int32).toNatClampNeg (ac_I (4000 : Int32).toNatClampNeg (fun _ => 0))) M 9 10 (.ref h.1)).bind (fun h => am_E P 71 73 [some (.ref M), none] [] h) := by
  rw [r71.2.2.2.2.2.2.2.2.2.2.2.2.2.2.2.2.2.2.2.2.2.2.2.2.2.2.2.2.2.2.2.2.2.2.2.2.2.2.2.2.2.2.2.1, r71.2.2.2.2.2.2.2.2.2.2.2.2.2.2.2.2.2.2.2.2.2.2.2.2.2.2.2.2.2.2.2.2.2.2.2.2.2.2.2.2.2.2.2.2.2.1, r71.2.2.2.2.2.2.2.2.2.2.2.2.2.2.2.2.2.2.2.2.2.2.2.2.2.2.2.2.2.2.2.2.2.2.2.2.2.2.2.2.2.2.2.2.2.2.1, r71.2.2.2.2.2.2.2.2.2.2.2.2.2.2.2.2.2.2.2.2.2.2.2.2.2.2.2.2.2.2.2.2.2.2.2.2.2.2.2.2.2.2.2.2.2.2.2.1]
theorem nm_s9 (P : Nat × Nat) (M : Nat) (h : am_H) : am_E P 71 73 [some (.ref M), none] [] h = if (4000 : Int32).toInt < 0 ∨ 1000000 < (4000 : Int32).toInt then none else (am_p1 (ah_new h (4000 : Int32).toNatClampNeg (ac_I (4000 : Int32).toNatClampNeg (fun _ => 0))) M 9 11 (.ref h.1)).bind (fun h => am_E P 71 82 [some (.ref M), none] [] h) := by
  rw [r71.2.2.2.2.2.2.2.2.2.2.2.2.2.2.2.2.2.2.2.2.2.2.2.2.2.2.2.2.2.2.2.2.2.2.2.2.2.2.2.2.2.2.2.2.2.2.2.2.1, r71.2.2.2.2.2.2.2.2.2.2.2.2.2.2.2.2.2.2.2.2.2.2.2.2.2.2.2.2.2.2.2.2.2.2.2.2.2.2.2.2.2.2.2.2.2.2.2.2.2.2.1, r71.2.2.2.2.2.2.2.2.2.2.2.2.2.2.2.2.2.2.2.2.2.2.2.2.2.2.2.2.2.2.2.2.2.2.2.2.2.2.2.2.2.2.2.2.2.2.2.2.2.2.2.1, r71.2.2.2.2.2.2.2.2.2.2.2.2.2.2.2.2.2.2.2.2.2.2.2.2.2.2.2.2.2.2.2.2.2.2.2.2.2.2.2.2.2.2.2.2.2.2.2.2.2.2.2.2.1]
theorem nm_s10 (P : Nat × Nat) (M : Nat) (h : am_H) : am_E P 71 82 [some (.ref M), none] [] h = if (4000 : Int32).toInt < 0 ∨ 1000000 < (4000 : Int32).toInt then none else (am_p1 (ah_new h (4000 : Int32).toNatClampNeg (ac_I (4000 : Int32).toNatClampNeg (fun _ => 0))) M 9 12 (.ref h.1)).bind (fun h => am_E P 71 91 [some (.ref M), none] [] h) := by
  rw [r71.2.2.2.2.2.2.2.2.2.2.2.2.2.2.2.2.2.2.2.2.2.2.2.2.2.2.2.2.2.2.2.2.2.2.2.2.2.2.2.2.2.2.2.2.2.2.2.2.2.2.2.2.2.1, r71.2.2.2.2.2.2.2.2.2.2.2.2.2.2.2.2.2.2.2.2.2.2.2.2.2.2.2.2.2.2.2.2.2.2.2.2.2.2.2.2.2.2.2.2.2.2.2.2.2.2.2.2.2.2.2.1, r71.2.2.2.2.2.2.2.2.2.2.2.2.2.2.2.2.2.2.2.2.2.2.2.2.2.2.2.2.2.2.2.2.2.2.2.2.2.2.2.2.2.2.2.2.2.2.2.2.2.2.2.2.2.2.2.2.1, r71.2.2.2.2.2.2.2.2.2.2.2.2.2.2.2.2.2.2.2.2.2.2.2.2.2.2.2.2.2.2.2.2.2.2.2.2.2.2.2.2.2.2.2.2.2.2.2.2.2.2.2.2.2.2.2.2.2.1]
theorem nm_s11 (P : Nat × Nat) (M : Nat) (h : am_H) : am_E P 71 91 [some (.ref M), none] [] h = if (4000 : Int32).toInt < 0 ∨ 1000000 < (4000 : Int32).toInt then none else (am_p1 (ah_new h (4000 : Int32).toNatClampNeg (ac_I (4000 : Int32).toNatClampNeg (fun _ => 0))) M 9 13 (.ref h.1)).bind (fun h => am_E P 71 100 [some (.ref M), none] [] h) := by
  rw [r71.2.2.2.2.2.2.2.2.2.2.2.2.2.2.2.2.2.2.2.2.2.2.2.2.2.2.2.2.2.2.2.2.2.2.2.2.2.2.2.2.2.2.2.2.2.2.2.2.2.2.2.2.2.2.2.2.2.2.1, r71.2.2.2.2.2.2.2.2.2.2.2.2.2.2.2.2.2.2.2.2.2.2.2.2.2.2.2.2.2.2.2.2.2.2.2.2.2.2.2.2.2.2.2.2.2.2.2.2.2.2.2.2.2.2.2.2.2.2.2.2.1, r71.2.2.2.2.2.2.2.2.2.2.2.2.2.2.2.2.2.2.2.2.2.2.2.2.2.2.2.2.2.2.2.2.2.2.2.2.2.2.2.2.2.2.2.2.2.2.2.2.2.2.2.2.2.2.2.2.2.2.2.2.2.1, r71.2.2.2.2.2.2.2.2.2.2.2.2.2.2.2.2.2.2.2.2.2.2.2.2.2.2.2.2.2.2.2.2.2.2.2.2.2.2.2.2.2.2.2.2.2.2.2.2.2.2.2.2.2.2.2.2.2.2.2.2.2.2.1]
theorem nm_s12 (P : Nat × Nat) (M : Nat) (h : am_H) : am_E P 71 100 [some (.ref M), none] [] h = if (3 : Int32).toInt < 0 ∨ 1000000 < (3 : Int32).toInt then none else (am_p1 (ah_new h (3 : Int32).toNatClampNeg (ac_I (3 : Int32).toNatClampNeg (fun _ => 0))) M 9 14 (.ref h.1)).bind (fun h => am_E P 71 107 [some (.ref M), none] [] h) := by
  rw [r71.2.2.2.2.2.2.2.2.2.2.2.2.2.2.2.2.2.2.2.2.2.2.2.2.2.2.2.2.2.2.2.2.2.2.2.2.2.2.2.2.2.2.2.2.2.2.2.2.2.2.2.2.2.2.2.2.2.2.2.2.2.2.2.1, r71.2.2.2.2.2.2.2.2.2.2.2.2.2.2.2.2.2.2.2.2.2.2.2.2.2.2.2.2.2.2.2.2.2.2.2.2.2.2.2.2.2.2.2.2.2.2.2.2.2.2.2.2.2.2.2.2.2.2.2.2.2.2.2.2.2.1, r71.2.2.2.2.2.2.2.2.2.2.2.2.2.2.2.2.2.2.2.2.2.2.2.2.2.2.2.2.2.2.2.2.2.2.2.2.2.2.2.2.2.2.2.2.2.2.2.2.2.2.2.2.2.2.2.2.2.2.2.2.2.2.2.2.2.2.1, r71.2.2.2.2.2.2.2.2.2.2.2.2.2.2.2.2.2.2.2.2.2.2.2.2.2.2.2.2.2.2.2.2.2.2.2.2.2.2.2.2.2.2.2.2.2.2.2.2.2.2.2.2.2.2.2.2.2.2.2.2.2.2.2.2.2.2.2.1]
theorem nm_s13 (P : Nat × Nat) (M : Nat) (h : am_H) : am_E P 71 107 [some (.ref M), none] [] h = if (6000 : Int32).toInt < 0 ∨ 1000000 < (6000 : Int32).toInt then none else (am_p1 (ah_new h (6000 : Int32).toNatClampNeg (ac_I (6000 : Int32).toNatClampNeg (fun _ => 0))) M 9 15 (.ref h.1)).bind (fun h => am_E P 71 116 [some (.ref M), none] [] h) := by
  rw [r71.2.2.2.2.2.2.2.2.2.2.2.2.2.2.2.2.2.2.2.2.2.2.2.2.2.2.2.2.2.2.2.2.2.2.2.2.2.2.2.2.2.2.2.2.2.2.2.2.2.2.2.2.2.2.2.2.2.2.2.2.2.2.2.2.2.2.2.2.1, r71.2.2.2.2.2.2.2.2.2.2.2.2.2.2.2.2.2.2.2.2.2.2.2.2.2.2.2.2.2.2.2.2.2.2.2.2.2.2.2.2.2.2.2.2.2.2.2.2.2.2.2.2.2.2.2.2.2.2.2.2.2.2.2.2.2.2.2.2.2.2.1, r71.2.2.2.2.2.2.2.2.2.2.2.2.2.2.2.2.2.2.2.2.2.2.2.2.2.2.2.2.2.2.2.2.2.2.2.2.2.2.2.2.2.2.2.2.2.2.2.2.2.2.2.2.2.2.2.2.2.2.2.2.2.2.2.2.2.2.2.2.2.2.2.1, r71.2.2.2.2.2.2.2.2.2.2.2.2.2.2.2.2.2.2.2.2.2.2.2.2.2.2.2.2.2.2.2.2.2.2.2.2.2.2.2.2.2.2.2.2.2.2.2.2.2.2.2.2.2.2.2.2.2.2.2.2.2.2.2.2.2.2.2.2.2.2.2.2.1]
theorem nm_s14 (P : Nat × Nat) (M : Nat) (h : am_H) : am_E P 71 116 [some (.ref M), none] [] h = if (6000 : Int32).toInt < 0 ∨ 1000000 < (6000 : Int32).toInt then none else (am_p1 (ah_new h (6000 : Int32).toNatClampNeg (ac_I (6000 : Int32).toNatClampNeg (fun _ => 0))) M 9 16 (.ref h.1)).bind (fun h => am_E P 71 125 [some (.ref M), none] [] h) := by
  rw [r71.2.2.2.2.2.2.2.2.2.2.2.2.2.2.2.2.2.2.2.2.2.2.2.2.2.2.2.2.2.2.2.2.2.2.2.2.2.2.2.2.2.2.2.2.2.2.2.2.2.2.2.2.2.2.2.2.2.2.2.2.2.2.2.2.2.2.2.2.2.2.2.2.2.1, r71.2.2.2.2.2.2.2.2.2.2.2.2.2.2.2.2.2.2.2.2.2.2.2.2.2.2.2.2.2.2.2.2.2.2.2.2.2.2.2.2.2.2.2.2.2.2.2.2.2.2.2.2.2.2.2.2.2.2.2.2.2.2.2.2.2.2.2.2.2.2.2.2.2.2.2.1, r71.2.2.2.2.2.2.2.2.2.2.2.2.2.2.2.2.2.2.2.2.2.2.2.2.2.2.2.2.2.2.2.2.2.2.2.2.2.2.2.2.2.2.2.2.2.2.2.2.2.2.2.2.2.2.2.2.2.2.2.2.2.2.2.2.2.2.2.2.2.2.2.2.2.2.2.2.1, r71.2.2.2.2.2.2.2.2.2.2.2.2.2.2.2.2.2.2.2.2.2.2.2.2.2.2.2.2.2.2.2.2.2.2.2.2.2.2.2.2.2.2.2.2.2.2.2.2.2.2.2.2.2.2.2.2.2.2.2.2.2.2.2.2.2.2.2.2.2.2.2.2.2.2.2.2.2.1]
theorem nm_s15 (P : Nat × Nat) (M : Nat) (h : am_H) : am_E P 71 125 [some (.ref M), none] [] h = if (6000 : Int32).toInt < 0 ∨ 1000000 < (6000 : Int32).toInt then none else (am_p1 (ah_new h (6000 : Int32).toNatClampNeg (ac_I (6000 : Int32).toNatClampNeg (fun _ => 0))) M 9 17 (.ref h.1)).bind (fun h => am_E P 71 134 [some (.ref M), none] [] h) := by
  rw [r71.2.2.2.2.2.2.2.2.2.2.2.2.2.2.2.2.2.2.2.2.2.2.2.2.2.2.2.2.2.2.2.2.2.2.2.2.2.2.2.2.2.2.2.2.2.2.2.2.2.2.2.2.2.2.2.2.2.2.2.2.2.2.2.2.2.2.2.2.2.2.2.2.2.2.2.2.2.2.1, r71.2.2.2.2.2.2.2.2.2.2.2.2.2.2.2.2.2.2.2.2.2.2.2.2.2.2.2.2.2.2.2.2.2.2.2.2.2.2.2.2.2.2.2.2.2.2.2.2.2.2.2.2.2.2.2.2.2.2.2.2.2.2.2.2.2.2.2.2.2.2.2.2.2.2.2.2.2.2.2.2.1, r71.2.2.2.2.2.2.2.2.2.2.2.2.2.2.2.2.2.2.2.2.2.2.2.2.2.2.2.2.2.2.2.2.2.2.2.2.2.2.2.2.2.2.2.2.2.2.2.2.2.2.2.2.2.2.2.2.2.2.2.2.2.2.2.2.2.2.2.2.2.2.2.2.2.2.2.2.2.2.2.2.2.1, r71.2.2.2.2.2.2.2.2.2.2.2.2.2.2.2.2.2.2.2.2.2.2.2.2.2.2.2.2.2.2.2.2.2.2.2.2.2.2.2.2.2.2.2.2.2.2.2.2.2.2.2.2.2.2.2.2.2.2.2.2.2.2.2.2.2.2.2.2.2.2.2.2.2.2.2.2.2.2.2.2.2.2.1]
theorem nm_s16 (P : Nat × Nat) (M : Nat) (h : am_H) : am_E P 71 134 [some (.ref M), none] [] h = if (6000 : Int32).toInt < 0 ∨ 1000000 < (6000 : Int32).toInt then none else (am_p1 (ah_new h (6000 : Int32).toNatClampNeg (ac_I (6000 : Int32).toNatClampNeg (fun _ => 0))) M 9 18 (.ref h.1)).bind (fun h => am_E P 71 143 [some (.ref M), none] [] h) := by
  rw [r71.2.2.2.2.2.2.2.2.2.2.2.2.2.2.2.2.2.2.2.2.2.2.2.2.2.2.2.2.2.2.2.2.2.2.2.2.2.2.2.2.2.2.2.2.2.2.2.2.2.2.2.2.2.2.2.2.2.2.2.2.2.2.2.2.2.2.2.2.2.2.2.2.2.2.2.2.2.2.2.2.2.2.2.1, r71.2.2.2.2.2.2.2.2.2.2.2.2.2.2.2.2.2.2.2.2.2.2.2.2.2.2.2.2.2.2.2.2.2.2.2.2.2.2.2.2.2.2.2.2.2.2.2.2.2.2.2.2.2.2.2.2.2.2.2.2.2.2.2.2.2.2.2.2.2.2.2.2.2.2.2.2.2.2.2.2.2.2.2.2.2.1, r71.2.2.2.2.2.2.2.2.2.2.2.2.2.2.2.2.2.2.2.2.2.2.2.2.2.2.2.2.2.2.2.2.2.2.2.2.2.2.2.2.2.2.2.2.2.2.2.2.2.2.2.2.2.2.2.2.2.2.2.2.2.2.2.2.2.2.2.2.2.2.2.2.2.2.2.2.2.2.2.2.2.2.2.2.2.2.1, r71.2.2.2.2.2.2.2.2.2.2.2.2.2.2.2.2.2.2.2.2.2.2.2.2.2.2.2.2.2.2.2.2.2.2.2.2.2.2.2.2.2.2.2.2.2.2.2.2.2.2.2.2.2.2.2.2.2.2.2.2.2.2.2.2.2.2.2.2.2.2.2.2.2.2.2.2.2.2.2.2.2.2.2.2.2.2.2.1]
theorem nm_s17 (P : Nat × Nat) (M : Nat) (h : am_H) : am_E P 71 143 [some (.ref M), none] [] h = if (30 : Int32).toInt < 0 ∨ 1000000 < (30 : Int32).toInt then none else (am_p1 (ah_new h (30 : Int32).toNatClampNeg (ac_I (30 : Int32).toNatClampNeg (fun _ => 0))) M 9 19 (.ref h.1)).bind (fun h => am_E P 71 151 [some (.ref M), none] [] h) := by
  rw [r71.2.2.2.2.2.2.2.2.2.2.2.2.2.2.2.2.2.2.2.2.2.2.2.2.2.2.2.2.2.2.2.2.2.2.2.2.2.2.2.2.2.2.2.2.2.2.2.2.2.2.2.2.2.2.2.2.2.2.2.2.2.2.2.2.2.2.2.2.2.2.2.2.2.2.2.2.2.2.2.2.2.2.2.2.2.2.2.2.1, r71.2.2.2.2.2.2.2.2.2.2.2.2.2.2.2.2.2.2.2.2.2.2.2.2.2.2.2.2.2.2.2.2.2.2.2.2.2.2.2.2.2.2.2.2.2.2.2.2.2.2.2.2.2.2.2.2.2.2.2.2.2.2.2.2.2.2.2.2.2.2.2.2.2.2.2.2.2.2.2.2.2.2.2.2.2.2.2.2.2.2.1, r71.2.2.2.2.2.2.2.2.2.2.2.2.2.2.2.2.2.2.2.2.2.2.2.2.2.2.2.2.2.2.2.2.2.2.2.2.2.2.2.2.2.2.2.2.2.2.2.2.2.2.2.2.2.2.2.2.2.2.2.2.2.2.2.2.2.2.2.2.2.2.2.2.2.2.2.2.2.2.2.2.2.2.2.2.2.2.2.2.2.2.2.1, r71.2.2.2.2.2.2.2.2.2.2.2.2.2.2.2.2.2.2.2.2.2.2.2.2.2.2.2.2.2.2.2.2.2.2.2.2.2.2.2.2.2.2.2.2.2.2.2.2.2.2.2.2.2.2.2.2.2.2.2.2.2.2.2.2.2.2.2.2.2.2.2.2.2.2.2.2.2.2.2.2.2.2.2.2.2.2.2.2.2.2.2.2.1]
theorem nm_s18 (P : Nat × Nat) (M : Nat) (h : am_H) : am_E P 71 151 [some (.ref M), none] [] h = if (30 : Int32).toInt < 0 ∨ 1000000 < (30 : Int32).toInt then none else (am_p1 (ah_new h (30 : Int32).toNatClampNeg (ac_I (30 : Int32).toNatClampNeg (fun _ => 0))) M 9 20 (.ref h.1)).bind (fun h => am_E P 71 159 [some (.ref M), none] [] h) := by
  rw [r71.2.2.2.2.2.2.2.2.2.2.2.2.2.2.2.2.2.2.2.2.2.2.2.2.2.2.2.2.2.2.2.2.2.2.2.2.2.2.2.2.2.2.2.2.2.2.2.2.2.2.2.2.2.2.2.2.2.2.2.2.2.2.2.2.2.2.2.2.2.2.2.2.2.2.2.2.2.2.2.2.2.2.2.2.2.2.2.2.2.2.2.2.2.1, r71.2.2.2.2.2.2.2.2.2.2.2.2.2.2.2.2.2.2.2.2.2.2.2.2.2.2.2.2.2.2.2.2.2.2.2.2.2.2.2.2.2.2.2.2.2.2.2.2.2.2.2.2.2.2.2.2.2.2.2.2.2.2.2.2.2.2.2.2.2.2.2.2.2.2.2.2.2.2.2.2.2.2.2.2.2.2.2.2.2.2.2.2.2.2.2.1, r71.2.2.2.2.2.2.2.2.2.2.2.2.2.2.2.2.2.2.2.2.2.2.2.2.2.2.2.2.2.2.2.2.2.2.2.2.2.2.2.2.2.2.2.2.2.2.2.2.2.2.2.2.2.2.2.2.2.2.2.2.2.2.2.2.2.2.2.2.2.2.2.2.2.2.2.2.2.2.2.2.2.2.2.2.2.2.2.2.2.2.2.2.2.2.2.2.1, r71.2.2.2.2.2.2.2.2.2.2.2.2.2.2.2.2.2.2.2.2.2.2.2.2.2.2.2.2.2.2.2.2.2.2.2.2.2.2.2.2.2.2.2.2.2.2.2.2.2.2.2.2.2.2.2.2.2.2.2.2.2.2.2.2.2.2.2.2.2.2.2.2.2.2.2.2.2.2.2.2.2.2.2.2.2.2.2.2.2.2.2.2.2.2.2.2.2.1]
theorem nm_s19 (P : Nat × Nat) (M : Nat) (h : am_H) : am_E P 71 159 [some (.ref M), none] [] h = if (30 : Int32).toInt < 0 ∨ 1000000 < (30 : Int32).toInt then none else (am_p1 (ah_new h (30 : Int32).toNatClampNeg (ac_I (30 : Int32).toNatClampNeg (fun _ => 0))) M 9 21 (.ref h.1)).bind (fun h => am_E P 71 167 [some (.ref M), none] [] h) := by
  rw [r71.2.2.2.2.2.2.2.2.2.2.2.2.2.2.2.2.2.2.2.2.2.2.2.2.2.2.2.2.2.2.2.2.2.2.2.2.2.2.2.2.2.2.2.2.2.2.2.2.2.2.2.2.2.2.2.2.2.2.2.2.2.2.2.2.2.2.2.2.2.2.2.2.2.2.2.2.2.2.2.2.2.2.2.2.2.2.2.2.2.2.2.2.2.2.2.2.2.2.1, r71.2.2.2.2.2.2.2.2.2.2.2.2.2.2.2.2.2.2.2.2.2.2.2.2.2.2.2.2.2.2.2.2.2.2.2.2.2.2.2.2.2.2.2.2.2.2.2.2.2.2.2.2.2.2.2.2.2.2.2.2.2.2.2.2.2.2.2.2.2.2.2.2.2.2.2.2.2.2.2.2.2.2.2.2.2.2.2.2.2.2.2.2.2.2.2.2.2.2.2.2.1, r71.2.2.2.2.2.2.2.2.2.2.2.2.2.2.2.2.2.2.2.2.2.2.2.2.2.2.2.2.2.2.2.2.2.2.2.2.2.2.2.2.2.2.2.2.2.2.2.2.2.2.2.2.2.2.2.2.2.2.2.2.2.2.2.2.2.2.2.2.2.2.2.2.2.2.2.2.2.2.2.2.2.2.2.2.2.2.2.2.2.2.2.2.2.2.2.2.2.2.2.2.2.1, r71.2.2.2.2.2.2.2.2.2.2.2.2.2.2.2.2.2.2.2.2.2.2.2.2.2.2.2.2.2.2.2.2.2.2.2.2.2.2.2.2.2.2.2.2.2.2.2.2.2.2.2.2.2.2.2.2.2.2.2.2.2.2.2.2.2.2.2.2.2.2.2.2.2.2.2.2.2.2.2.2.2.2.2.2.2.2.2.2.2.2.2.2.2.2.2.2.2.2.2.2.2.2.1]
theorem nm_s20 (P : Nat × Nat) (M : Nat) (h : am_H) : am_E P 71 167 [some (.ref M), none] [] h = if (4 : Int32).toInt < 0 ∨ 1000000 < (4 : Int32).toInt then none else (am_p1 (ah_new h (4 : Int32).toNatClampNeg (ac_I (4 : Int32).toNatClampNeg (fun _ => 0))) M 9 23 (.ref h.1)).bind (fun h => am_E P 71 174 [some (.ref M), none] [] h) := by
  rw [r71.2.2.2.2.2.2.2.2.2.2.2.2.2.2.2.2.2.2.2.2.2.2.2.2.2.2.2.2.2.2.2.2.2.2.2.2.2.2.2.2.2.2.2.2.2.2.2.2.2.2.2.2.2.2.2.2.2.2.2.2.2.2.2.2.2.2.2.2.2.2.2.2.2.2.2.2.2.2.2.2.2.2.2.2.2.2.2.2.2.2.2.2.2.2.2.2.2.2.2.2.2.2.2.1, r71.2.2.2.2.2.2.2.2.2.2.2.2.2.2.2.2.2.2.2.2.2.2.2.2.2.2.2.2.2.2.2.2.2.2.2.2.2.2.2.2.2.2.2.2.2.2.2.2.2.2.2.2.2.2.2.2.2.2.2.2.2.2.2.2.2.2.2.2.2.2.2.2.2.2.2.2.2.2.2.2.2.2.2.2.2.2.2.2.2.2.2.2.2.2.2.2.2.2.2.2.2.2.2.2.2.1, r71.2.2.2.2.2.2.2.2.2.2.2.2.2.2.2.2.2.2.2.2.2.2.2.2.2.2.2.2.2.2.2.2.2.2.2.2.2.2.2.2.2.2.2.2.2.2.2.2.2.2.2.2.2.2.2.2.2.2.2.2.2.2.2.2.2.2.2.2.2.2.2.2.2.2.2.2.2.2.2.2.2.2.2.2.2.2.2.2.2.2.2.2.2.2.2.2.2.2.2.2.2.2.2.2.2.2.1, r71.2.2.2.2.2.2.2.2.2.2.2.2.2.2.2.2.2.2.2.2.2.2.2.2.2.2.2.2.2.2.2.2.2.2.2.2.2.2.2.2.2.2.2.2.2.2.2.2.2.2.2.2.2.2.2.2.2.2.2.2.2.2.2.2.2.2.2.2.2.2.2.2.2.2.2.2.2.2.2.2.2.2.2.2.2.2.2.2.2.2.2.2.2.2.2.2.2.2.2.2.2.2.2.2.2.2.2.1]
theorem nm_s21 (P : Nat × Nat) (M : Nat) (h : am_H) : am_E P 71 174 [some (.ref M), none] [] h = if (4 : Int32).toInt < 0 ∨ 1000000 < (4 : Int32).toInt then none else (am_p1 (ah_new h (4 : Int32).toNatClampNeg (ac_I (4 : Int32).toNatClampNeg (fun _ => 0))) M 9 24 (.ref h.1)).bind (fun h => am_E P 71 181 [some (.ref M), none] [] h) := by
  rw [r71.2.2.2.2.2.2.2.2.2.2.2.2.2.2.2.2.2.2.2.2.2.2.2.2.2.2.2.2.2.2.2.2.2.2.2.2.2.2.2.2.2.2.2.2.2.2.2.2.2.2.2.2.2.2.2.2.2.2.2.2.2.2.2.2.2.2.2.2.2.2.2.2.2.2.2.2.2.2.2.2.2.2.2.2.2.2.2.2.2.2.2.2.2.2.2.2.2.2.2.2.2.2.2.2.2.2.2.2.1, r71.2.2.2.2.2.2.2.2.2.2.2.2.2.2.2.2.2.2.2.2.2.2.2.2.2.2.2.2.2.2.2.2.2.2.2.2.2.2.2.2.2.2.2.2.2.2.2.2.2.2.2.2.2.2.2.2.2.2.2.2.2.2.2.2.2.2.2.2.2.2.2.2.2.2.2.2.2.2.2.2.2.2.2.2.2.2.2.2.2.2.2.2.2.2.2.2.2.2.2.2.2.2.2.2.2.2.2.2.2.2.1, r71.2.2.2.2.2.2.2.2.2.2.2.2.2.2.2.2.2.2.2.2.2.2.2.2.2.2.2.2.2.2.2.2.2.2.2.2.2.2.2.2.2.2.2.2.2.2.2.2.2.2.2.2.2.2.2.2.2.2.2.2.2.2.2.2.2.2.2.2.2.2.2.2.2.2.2.2.2.2.2.2.2.2.2.2.2.2.2.2.2.2.2.2.2.2.2.2.2.2.2.2.2.2.2.2.2.2.2.2.2.2.2.1, r71.2.2.2.2.2.2.2.2.2.2.2.2.2.2.2.2.2.2.2.2.2.2.2.2.2.2.2.2.2.2.2.2.2.2.2.2.2.2.2.2.2.2.2.2.2.2.2.2.2.2.2.2.2.2.2.2.2.2.2.2.2.2.2.2.2.2.2.2.2.2.2.2.2.2.2.2.2.2.2.2.2.2.2.2.2.2.2.2.2.2.2.2.2.2.2.2.2.2.2.2.2.2.2.2.2.2.2.2.2.2.2.2.1]
theorem nm_s22 (P : Nat × Nat) (M : Nat) (h : am_H) : am_E P 71 181 [some (.ref M), none] [] h = (am_p1 h M 9 25 (.int (-6))).bind (fun h => am_E P 71 187 [some (.ref M), none] [] h) := by
  rw [r71.2.2.2.2.2.2.2.2.2.2.2.2.2.2.2.2.2.2.2.2.2.2.2.2.2.2.2.2.2.2.2.2.2.2.2.2.2.2.2.2.2.2.2.2.2.2.2.2.2.2.2.2.2.2.2.2.2.2.2.2.2.2.2.2.2.2.2.2.2.2.2.2.2.2.2.2.2.2.2.2.2.2.2.2.2.2.2.2.2.2.2.2.2.2.2.2.2.2.2.2.2.2.2.2.2.2.2.2.2.2.2.2.2.1, r71.2.2.2.2.2.2.2.2.2.2.2.2.2.2.2.2.2.2.2.2.2.2.2.2.2.2.2.2.2.2.2.2.2.2.2.2.2.2.2.2.2.2.2.2.2.2.2.2.2.2.2.2.2.2.2.2.2.2.2.2.2.2.2.2.2.2.2.2.2.2.2.2.2.2.2.2.2.2.2.2.2.2.2.2.2.2.2.2.2.2.2.2.2.2.2.2.2.2.2.2.2.2.2.2.2.2.2.2.2.2.2.2.2.2.2.1, r71.2.2.2.2.2.2.2.2.2.2.2.2.2.2.2.2.2.2.2.2.2.2.2.2.2.2.2.2.2.2.2.2.2.2.2.2.2.2.2.2.2.2.2.2.2.2.2.2.2.2.2.2.2.2.2.2.2.2.2.2.2.2.2.2.2.2.2.2.2.2.2.2.2.2.2.2.2.2.2.2.2.2.2.2.2.2.2.2.2.2.2.2.2.2.2.2.2.2.2.2.2.2.2.2.2.2.2.2.2.2.2.2.2.2.2.2.1]
theorem nm_s23 (P : Nat × Nat) (M : Nat) (h : am_H) : am_E P 71 187 [some (.ref M), none] [] h = if (201 : Int32).toInt < 0 ∨ 1000000 < (201 : Int32).toInt then none else (am_p1 (ah_new h (201 : Int32).toNatClampNeg (ac_I (201 : Int32).toNatClampNeg (fun _ => 0))) M 9 26 (.ref h.1)).bind (fun h => am_E P 71 196 [some (.ref M), none] [] h) := by
  rw [r71.2.2.2.2.2.2.2.2.2.2.2.2.2.2.2.2.2.2.2.2.2.2.2.2.2.2.2.2.2.2.2.2.2.2.2.2.2.2.2.2.2.2.2.2.2.2.2.2.2.2.2.2.2.2.2.2.2.2.2.2.2.2.2.2.2.2.2.2.2.2.2.2.2.2.2.2.2.2.2.2.2.2.2.2.2.2.2.2.2.2.2.2.2.2.2.2.2.2.2.2.2.2.2.2.2.2.2.2.2.2.2.2.2.2.2.2.2.1, r71.2.2.2.2.2.2.2.2.2.2.2.2.2.2.2.2.2.2.2.2.2.2.2.2.2.2.2.2.2.2.2.2.2.2.2.2.2.2.2.2.2.2.2.2.2.2.2.2.2.2.2.2.2.2.2.2.2.2.2.2.2.2.2.2.2.2.2.2.2.2.2.2.2.2.2.2.2.2.2.2.2.2.2.2.2.2.2.2.2.2.2.2.2.2.2.2.2.2.2.2.2.2.2.2.2.2.2.2.2.2.2.2.2.2.2.2.2.2.2.1, r71.2.2.2.2.2.2.2.2.2.2.2.2.2.2.2.2.2.2.2.2.2.2.2.2.2.2.2.2.2.2.2.2.2.2.2.2.2.2.2.2.2.2.2.2.2.2.2.2.2.2.2.2.2.2.2.2.2.2.2.2.2.2.2.2.2.2.2.2.2.2.2.2.2.2.2.2.2.2.2.2.2.2.2.2.2.2.2.2.2.2.2.2.2.2.2.2.2.2.2.2.2.2.2.2.2.2.2.2.2.2.2.2.2.2.2.2.2.2.2.2.1, r71.2.2.2.2.2.2.2.2.2.2.2.2.2.2.2.2.2.2.2.2.2.2.2.2.2.2.2.2.2.2.2.2.2.2.2.2.2.2.2.2.2.2.2.2.2.2.2.2.2.2.2.2.2.2.2.2.2.2.2.2.2.2.2.2.2.2.2.2.2.2.2.2.2.2.2.2.2.2.2.2.2.2.2.2.2.2.2.2.2.2.2.2.2.2.2.2.2.2.2.2.2.2.2.2.2.2.2.2.2.2.2.2.2.2.2.2.2.2.2.2.2.1]
theorem nm_s24 (P : Nat × Nat) (M : Nat) (h : am_H) : am_E P 71 196 [some (.ref M), none] [] h = (am_p1 h M 9 31 (.int (-6))).bind (fun h => am_E P 71 202 [some (.ref M), none] [] h) := by
  rw [r71.2.2.2.2.2.2.2.2.2.2.2.2.2.2.2.2.2.2.2.2.2.2.2.2.2.2.2.2.2.2.2.2.2.2.2.2.2.2.2.2.2.2.2.2.2.2.2.2.2.2.2.2.2.2.2.2.2.2.2.2.2.2.2.2.2.2.2.2.2.2.2.2.2.2.2.2.2.2.2.2.2.2.2.2.2.2.2.2.2.2.2.2.2.2.2.2.2.2.2.2.2.2.2.2.2.2.2.2.2.2.2.2.2.2.2.2.2.2.2.2.2.2.1, r71.2.2.2.2.2.2.2.2.2.2.2.2.2.2.2.2.2.2.2.2.2.2.2.2.2.2.2.2.2.2.2.2.2.2.2.2.2.2.2.2.2.2.2.2.2.2.2.2.2.2.2.2.2.2.2.2.2.2.2.2.2.2.2.2.2.2.2.2.2.2.2.2.2.2.2.2.2.2.2.2.2.2.2.2.2.2.2.2.2.2.2.2.2.2.2.2.2.2.2.2.2.2.2.2.2.2.2.2.2.2.2.2.2.2.2.2.2.2.2.2.2.2.2.2.1, r71.2.2.2.2.2.2.2.2.2.2.2.2.2.2.2.2.2.2.2.2.2.2.2.2.2.2.2.2.2.2.2.2.2.2.2.2.2.2.2.2.2.2.2.2.2.2.2.2.2.2.2.2.2.2.2.2.2.2.2.2.2.2.2.2.2.2.2.2.2.2.2.2.2.2.2.2.2.2.2.2.2.2.2.2.2.2.2.2.2.2.2.2.2.2.2.2.2.2.2.2.2.2.2.2.2.2.2.2.2.2.2.2.2.2.2.2.2.2.2.2.2.2.2.2.2.1]
theorem nm_0 (P : Nat × Nat) {M : Nat} {h h' : am_H} (w : am_p1 (ah_new h 3 (ac_I 3 (fun _ => 0))) M 9 1 (.ref h.1) = some h') : am_E P 71 4 [some (.ref M), none] [] h = am_E P 71 11 [some (.ref M), none] [] h' := by
  rw [nm_s0 P M h, if_neg nw_n3, nw_e3, w]
  rfl
theorem nm_1 (P : Nat × Nat) {M : Nat} {h h' : am_H} (w : am_p1 (ah_new h 3 (ac_I 3 (fun _ => 0))) M 9 2 (.ref h.1) = some h') : am_E P 71 11 [some (.ref M), none] [] h = am_E P 71 18 [some (.ref M), none] [] h' := by
  rw [nm_s1 P M h, if_neg nw_n3, nw_e3, w]
  rfl
theorem nm_2 (P : Nat × Nat) {M : Nat} {h h' : am_H} (w : am_p1 (ah_new h 60 (ac_I 60 (fun _ => 0))) M 9 3 (.ref h.1) = some h') : am_E P 71 18 [some (.ref M), none] [] h = am_E P 71 26 [some (.ref M), none] [] h' := by
  rw [nm_s2 P M h, if_neg nw_n60, nw_e60, w]
  rfl
theorem nm_3 (P : Nat × Nat) {M : Nat} {h h' : am_H} (w : am_p1 (ah_new h 60 (ac_I 60 (fun _ => 0))) M 9 4 (.ref h.1) = some h') : am_E P 71 26 [some (.ref M), none] [] h = am_E P 71 34 [some (.ref M), none] [] h' := by
  rw [nm_s3 P M h, if_neg nw_n60, nw_e60, w]
  rfl
theorem nm_4 (P : Nat × Nat) {M : Nat} {h h' : am_H} (w : am_p1 (ah_new h 3 (ac_I 3 (fun _ => 0))) M 9 5 (.ref h.1) = some h') : am_E P 71 34 [some (.ref M), none] [] h = am_E P 71 41 [some (.ref M), none] [] h' := by
  rw [nm_s4 P M h, if_neg nw_n3, nw_e3, w]
  rfl
theorem nm_5 (P : Nat × Nat) {M : Nat} {h h' : am_H} (w : am_p1 (ah_new h 3 (ac_I 3 (fun _ => 0))) M 9 6 (.ref h.1) = some h') : am_E P 71 41 [some (.ref M), none] [] h = am_E P 71 48 [some (.ref M), none] [] h' := by
  rw [nm_s5 P M h, if_neg nw_n3, nw_e3, w]
  rfl
theorem nm_6 (P : Nat × Nat) {M : Nat} {h h' : am_H} (w : am_p1 (ah_new h 3 (ac_I 3 (fun _ => 0))) M 9 7 (.ref h.1) = some h') : am_E P 71 48 [some (.ref M), none] [] h = am_E P 71 55 [some (.ref M), none] [] h' := by
  rw [nm_s6 P M h, if_neg nw_n3, nw_e3, w]
  rfl
theorem nm_7 (P : Nat × Nat) {M : Nat} {h h' : am_H} (w : am_p1 (ah_new h 4000 (ac_I 4000 (fun _ => 0))) M 9 9 (.ref h.1) = some h') : am_E P 71 55 [some (.ref M), none] [] h = am_E P 71 64 [some (.ref M), none] [] h' := by
  rw [nm_s7 P M h, if_neg nw_n4000, nw_e4000, w]
  rfl
theorem nm_8 (P : Nat × Nat) {M : Nat} {h h' : am_H} (w : am_p1 (ah_new h 4000 (ac_I 4000 (fun _ => 0))) M 9 10 (.ref h.1) = some h') : am_E P 71 64 [some (.ref M), none] [] h = am_E P 71 73 [some (.ref M), none] [] h' := by
  rw [nm_s8 P M h, if_neg nw_n4000, nw_e4000, w]
  rfl
theorem nm_9 (P : Nat × Nat) {M : Nat} {h h' : am_H} (w : am_p1 (ah_new h 4000 (ac_I 4000 (fun _ => 0))) M 9 11 (.ref h.1) = some h') : am_E P 71 73 [some (.ref M), none] [] h = am_E P 71 82 [some (.ref M), none] [] h' := by
  rw [nm_s9 P M h, if_neg nw_n4000, nw_e4000, w]
  rfl
theorem nm_10 (P : Nat × Nat) {M : Nat} {h h' : am_H} (w : am_p1 (ah_new h 4000 (ac_I 4000 (fun _ => 0))) M 9 12 (.ref h.1) = some h') : am_E P 71 82 [some (.ref M), none] [] h = am_E P 71 91 [some (.ref M), none] [] h' := by
  rw [nm_s10 P M h, if_neg nw_n4000, nw_e4000, w]
  rfl
theorem nm_11 (P : Nat × Nat) {M : Nat} {h h' : am_H} (w : am_p1 (ah_new h 4000 (ac_I 4000 (fun _ => 0))) M 9 13 (.ref h.1) = some h') : am_E P 71 91 [some (.ref M), none] [] h = am_E P 71 100 [some (.ref M), none] [] h' := by
  rw [nm_s11 P M h, if_neg nw_n4000, nw_e4000, w]
  rfl
theorem nm_12 (P : Nat × Nat) {M : Nat} {h h' : am_H} (w : am_p1 (ah_new h 3 (ac_I 3 (fun _ => 0))) M 9 14 (.ref h.1) = some h') : am_E P 71 100 [some (.ref M), none] [] h = am_E P 71 107 [some (.ref M), none] [] h' := by
  rw [nm_s12 P M h, if_neg nw_n3, nw_e3, w]
  rfl
theorem nm_13 (P : Nat × Nat) {M : Nat} {h h' : am_H} (w : am_p1 (ah_new h 6000 (ac_I 6000 (fun _ => 0))) M 9 15 (.ref h.1) = some h') : am_E P 71 107 [some (.ref M), none] [] h = am_E P 71 116 [some (.ref M), none] [] h' := by
  rw [nm_s13 P M h, if_neg nw_n6000, nw_e6000, w]
  rfl
theorem nm_14 (P : Nat × Nat) {M : Nat} {h h' : am_H} (w : am_p1 (ah_new h 6000 (ac_I 6000 (fun _ => 0))) M 9 16 (.ref h.1) = some h') : am_E P 71 116 [some (.ref M), none] [] h = am_E P 71 125 [some (.ref M), none] [] h' := by
  rw [nm_s14 P M h, if_neg nw_n6000, nw_e6000, w]
  rfl
theorem nm_15 (P : Nat × Nat) {M : Nat} {h h' : am_H} (w : am_p1 (ah_new h 6000 (ac_I 6000 (fun _ => 0))) M 9 17 (.ref h.1) = some h') : am_E P 71 125 [some (.ref M), none] [] h = am_E P 71 134 [some (.ref M), none] [] h' := by
  rw [nm_s15 P M h, if_neg nw_n6000, nw_e6000, w]
  rfl
theorem nm_16 (P : Nat × Nat) {M : Nat} {h h' : am_H} (w : am_p1 (ah_new h 6000 (ac_I 6000 (fun _ => 0))) M 9 18 (.ref h.1) = some h') : am_E P 71 134 [some (.ref M), none] [] h = am_E P 71 143 [some (.ref M), none] [] h' := by
  rw [nm_s16 P M h, if_neg nw_n6000, nw_e6000, w]
  rfl
theorem nm_17 (P : Nat × Nat) {M : Nat} {h h' : am_H} (w : am_p1 (ah_new h 30 (ac_I 30 (fun _ => 0))) M 9 19 (.ref h.1) = some h') : am_E P 71 143 [some (.ref M), none] [] h = am_E P 71 151 [some (.ref M), none] [] h' := by
  rw [nm_s17 P M h, if_neg nw_n30, nw_e30, w]
  rfl
theorem nm_18 (P : Nat × Nat) {M : Nat} {h h' : am_H} (w : am_p1 (ah_new h 30 (ac_I 30 (fun _ => 0))) M 9 20 (.ref h.1) = some h') : am_E P 71 151 [some (.ref M), none] [] h = am_E P 71 159 [some (.ref M), none] [] h' := by
  rw [nm_s18 P M h, if_neg nw_n30, nw_e30, w]
  rfl
theorem nm_19 (P : Nat × Nat) {M : Nat} {h h' : am_H} (w : am_p1 (ah_new h 30 (ac_I 30 (fun _ => 0))) M 9 21 (.ref h.1) = some h') : am_E P 71 159 [some (.ref M), none] [] h = am_E P 71 167 [some (.ref M), none] [] h' := by
  rw [nm_s19 P M h, if_neg nw_n30, nw_e30, w]
  rfl
theorem nm_20 (P : Nat × Nat) {M : Nat} {h h' : am_H} (w : am_p1 (ah_new h 4 (ac_I 4 (fun _ => 0))) M 9 23 (.ref h.1) = some h') : am_E P 71 167 [some (.ref M), none] [] h = am_E P 71 174 [some (.ref M), none] [] h' := by
  rw [nm_s20 P M h, if_neg nw_n4, nw_e4, w]
  rfl
theorem nm_21 (P : Nat × Nat) {M : Nat} {h h' : am_H} (w : am_p1 (ah_new h 4 (ac_I 4 (fun _ => 0))) M 9 24 (.ref h.1) = some h') : am_E P 71 174 [some (.ref M), none] [] h = am_E P 71 181 [some (.ref M), none] [] h' := by
  rw [nm_s21 P M h, if_neg nw_n4, nw_e4, w]
  rfl
theorem nm_22 (P : Nat × Nat) {M : Nat} {h h' : am_H} (w : am_p1 h M 9 25 (.int (-6)) = some h') : am_E P 71 181 [some (.ref M), none] [] h = am_E P 71 187 [some (.ref M), none] [] h' := by
  rw [nm_s22 P M h, w]
  rfl
theorem nm_23 (P : Nat × Nat) {M : Nat} {h h' : am_H} (w : am_p1 (ah_new h 201 (ac_I 201 (fun _ => 0))) M 9 26 (.ref h.1) = some h') : am_E P 71 187 [some (.ref M), none] [] h = am_E P 71 196 [some (.ref M), none] [] h' := by
  rw [nm_s23 P M h, if_neg nw_n201, nw_e201, w]
  rfl
theorem nm_24 (P : Nat × Nat) {M : Nat} {h h' : am_H} (w : am_p1 h M 9 31 (.int (-6)) = some h') : am_E P 71 196 [some (.ref M), none] [] h = am_E P 71 204 [some (.ref M), some (.int 0)] [] h' := by
  rw [nm_s24 P M h, w]
  simp only [Option.bind_some, r71]
theorem k_newM_L (P : Nat × Nat) {M s : Nat} {mem : Nat → am_C} {hq : am_H} (hv : MV M (M + 24) (s + 44437) mem hq (fun x => if x = 25 ∨ x = 31 then -6 else 0) (fun _ _ => 0)) : ∃ h'' F', am_E P 71 204 [some (.ref M), some (.int 0)] [] hq = some (none, h'') ∧ MV M (M + 24) (s + 44437) mem h'' (fun x => if x = 25 ∨ x = 31 then -6 else 0) F' ∧ (∀ j, j ≠ 18 → F' j = fun _ => 0) ∧ (∀ x, x < 30 → F' 18 x = -6) := by
  have loop : ∀ k i, i + k = 30 → ∀ h' F, MV M (M + 24) (s + 44437) mem h' (fun x => if x = 25 ∨ x = 31 then -6 else 0) F → (∀ j, j ≠ 18 → F j = fun _ => 0) → (∀ x, x < i → F 18 x = -6) → ∃ h'' F', am_E P 71 204 [some (.ref M), some (.int (nI i))] [] h' = some (none, h'') ∧ MV M (M + 24) (s + 44437) mem h'' (fun x => if x = 25 ∨ x = 31 then -6 else 0) F' ∧ (∀ j, j ≠ 18 → F' j = fun _ => 0) ∧ (∀ x, x < 30 → F' 18 x = -6) := by
    intro k
    induction k with
    | zero =>
      intro i hi h' F hv hF h18
      refine ⟨h', F, ?_, hv, hF, fun x hx => h18 x (by omega)⟩
      obtain rfl : i = 30 := by omega
      have c3 : (30 : Int32) ≤ nI 30 := by decide
      rw [hd71_204]
      simp only [r71, if_pos c3]
    | succ k ih =>
      intro i hi h' F hv hF h18
      have v1 := hv.a 18 (by decide) (by decide) i (-6)
      obtain ⟨h'', F', i1, i2, i3, i4⟩ := ih (i + 1) (by omega) _ _ v1 (fun j hj => by simp [va_up, hj, hF j hj]) (fun x hx => by
        by_cases hxi : x = i
        · subst hxi; simp [va_up, upd]
        · simp [va_up, upd, hxi, h18 x (by omega)])
      refine ⟨h'', F', ?_, i2, i3, i4⟩
      rw [← i1]
      have c : ¬ (30 : Int32) ≤ nI i := nI_ge (a := i) (b := 30) (by omega) (by decide)
      conv => lhs; rw [hd71_204]
      simp only [r71, if_neg c, hv.g, mo_g, Option.bind_some, hv.st 18 (by decide) (by decide) (q := i) (show i < 30 by omega), nI_1]
  have := loop 30 0 rfl hq _ hv (fun _ _ => rfl) (fun x hx => by omega)
  exact this
theorem k_newM_C {M s : Nat} {mem : Nat → am_C} {h : am_H} (P : Nat × Nat) (c0 : CN M 0 s g9 mem h) : ∃ h', am_E P 71 4 [some (.ref M), none] [] h = am_E P 71 204 [some (.ref M), some (.int 0)] [] h' ∧ CN M 23 (s + 44437) (va_up (va_up (va_up (va_up (va_up (va_up (va_up (va_up (va_up (va_up (va_up (va_up (va_up (va_up (va_up (va_up (va_up (va_up (va_up (va_up (va_up (va_up (va_up (va_up (va_up g9 1 (.ref (M + 1))) 2 (.ref (M + 2))) 3 (.ref (M + 3))) 4 (.ref (M + 4))) 5 (.ref (M + 5))) 6 (.ref (M + 6))) 7 (.ref (M + 7))) 9 (.ref (M + 8))) 10 (.ref (M + 9))) 11 (.ref (M + 10))) 12 (.ref (M + 11))) 13 (.ref (M + 12))) 14 (.ref (M + 13))) 15 (.ref (M + 14))) 16 (.ref (M + 15))) 17 (.ref (M + 16))) 18 (.ref (M + 17))) 19 (.ref (M + 18))) 20 (.ref (M + 19))) 21 (.ref (M + 20))) 23 (.ref (M + 21))) 24 (.ref (M + 22))) 25 (.int (-6))) 26 (.ref (M + 23))) 31 (.int (-6))) mem h' := by
  obtain ⟨q0, w0, d0⟩ := c0.step 1 3 (by decide) rfl (fun v => (vl_set _ v).1)
  obtain ⟨q1, w1, d1⟩ := d0.step 2 3 (by decide) rfl (fun v => (vl_set _ v).2.1)
  obtain ⟨q2, w2, d2⟩ := d1.step 3 60 (by decide) rfl (fun v => (vl_set _ v).2.2.1)
  obtain ⟨q3, w3, d3⟩ := d2.step 4 60 (by decide) rfl (fun v => (vl_set _ v).2.2.2.1)
  obtain ⟨q4, w4, d4⟩ := d3.step 5 3 (by decide) rfl (fun v => (vl_set _ v).2.2.2.2.1)
  obtain ⟨q5, w5, d5⟩ := d4.step 6 3 (by decide) rfl (fun v => (vl_set _ v).2.2.2.2.2.1)
  obtain ⟨q6, w6, d6⟩ := d5.step 7 3 (by decide) rfl (fun v => (vl_set _ v).2.2.2.2.2.2.1)
  obtain ⟨q7, w7, d7⟩ := d6.step 9 4000 (by decide) rfl (fun v => (vl_set _ v).2.2.2.2.2.2.2.1)
  obtain ⟨q8, w8, d8⟩ := d7.step 10 4000 (by decide) rfl (fun v => (vl_set _ v).2.2.2.2.2.2.2.2.1)
  obtain ⟨q9, w9, d9⟩ := d8.step 11 4000 (by decide) rfl (fun v => (vl_set _ v).2.2.2.2.2.2.2.2.2.1)
  obtain ⟨q10, w10, d10⟩ := d9.step 12 4000 (by decide) rfl (fun v => (vl_set _ v).2.2.2.2.2.2.2.2.2.2.1)
  obtain ⟨q11, w11, d11⟩ := d10.step 13 4000 (by decide) rfl (fun v => (vl_set _ v).2.2.2.2.2.2.2.2.2.2.2.1)
  obtain ⟨q12, w12, d12⟩ := d11.step 14 3 (by decide) rfl (fun v => (vl_set _ v).2.2.2.2.2.2.2.2.2.2.2.2.1)
  obtain ⟨q13, w13, d13⟩ := d12.step 15 6000 (by decide) rfl (fun v => (vl_set _ v).2.2.2.2.2.2.2.2.2.2.2.2.2.1)
  obtain ⟨q14, w14, d14⟩ := d13.step 16 6000 (by decide) rfl (fun v => (vl_set _ v).2.2.2.2.2.2.2.2.2.2.2.2.2.2.1)
  obtain ⟨q15, w15, d15⟩ := d14.step 17 6000 (by decide) rfl (fun v => (vl_set _ v).2.2.2.2.2.2.2.2.2.2.2.2.2.2.2.1)
  obtain ⟨q16, w16, d16⟩ := d15.step 18 6000 (by decide) rfl (fun v => (vl_set _ v).2.2.2.2.2.2.2.2.2.2.2.2.2.2.2.2.1)
  obtain ⟨q17, w17, d17⟩ := d16.step 19 30 (by decide) rfl (fun v => (vl_set _ v).2.2.2.2.2.2.2.2.2.2.2.2.2.2.2.2.2.1)
  obtain ⟨q18, w18, d18⟩ := d17.step 20 30 (by decide) rfl (fun v => (vl_set _ v).2.2.2.2.2.2.2.2.2.2.2.2.2.2.2.2.2.2.1)
  obtain ⟨q19, w19, d19⟩ := d18.step 21 30 (by decide) rfl (fun v => (vl_set _ v).2.2.2.2.2.2.2.2.2.2.2.2.2.2.2.2.2.2.2.1)
  obtain ⟨q20, w20, d20⟩ := d19.step 23 4 (by decide) rfl (fun v => (vl_set _ v).2.2.2.2.2.2.2.2.2.2.2.2.2.2.2.2.2.2.2.2.1)
  obtain ⟨q21, w21, d21⟩ := d20.step 24 4 (by decide) rfl (fun v => (vl_set _ v).2.2.2.2.2.2.2.2.2.2.2.2.2.2.2.2.2.2.2.2.2.1)
  obtain ⟨q22, w22, d22⟩ := d21.put 25 (by decide) (.int (-6)) (fun v => (vl_set _ v).2.2.2.2.2.2.2.2.2.2.2.2.2.2.2.2.2.2.2.2.2.2.1)
  obtain ⟨q23, w23, d23⟩ := d22.step 26 201 (by decide) rfl (fun v => (vl_set _ v).2.2.2.2.2.2.2.2.2.2.2.2.2.2.2.2.2.2.2.2.2.2.2.1)
  obtain ⟨q24, w24, d24⟩ := d23.put 31 (by decide) (.int (-6)) (fun v => (vl_set _ v).2.2.2.2.2.2.2.2.2.2.2.2.2.2.2.2.2.2.2.2.2.2.2.2)
  refine ⟨q24, ?_, ?_⟩
  · rw [nm_0 P w0, nm_1 P w1, nm_2 P w2, nm_3 P w3, nm_4 P w4, nm_5 P w5, nm_6 P w6, nm_7 P w7, nm_8 P w8, nm_9 P w9, nm_10 P w10, nm_11 P w11, nm_12 P w12, nm_13 P w13, nm_14 P w14, nm_15 P w15, nm_16 P w16, nm_17 P w17, nm_18 P w18, nm_19 P w19, nm_20 P w20, nm_21 P w21, nm_22 P w22, nm_23 P w23, nm_24 P w24]
  · obtain ⟨x1, x2, x3, x4, x5⟩ := d24
    exact ⟨x1, x2.trans (by simp only [Nat.add_assoc, Nat.reduceAdd]), x3, x4, x5⟩
theorem vl_mo (M : Nat) : vl (va_up (va_up (va_up (va_up (va_up (va_up (va_up (va_up (va_up (va_up (va_up (va_up (va_up (va_up (va_up (va_up (va_up (va_up (va_up (va_up (va_up (va_up (va_up (va_up (va_up g9 1 (.ref (M + 1))) 2 (.ref (M + 2))) 3 (.ref (M + 3))) 4 (.ref (M + 4))) 5 (.ref (M + 5))) 6 (.ref (M + 6))) 7 (.ref (M + 7))) 9 (.ref (M + 8))) 10 (.ref (M + 9))) 11 (.ref (M + 10))) 12 (.ref (M + 11))) 13 (.ref (M + 12))) 14 (.ref (M + 13))) 15 (.ref (M + 14))) 16 (.ref (M + 15))) 17 (.ref (M + 16))) 18 (.ref (M + 17))) 19 (.ref (M + 18))) 20 (.ref (M + 19))) 21 (.ref (M + 20))) 23 (.ref (M + 21))) 24 (.ref (M + 22))) 25 (.int (-6))) 26 (.ref (M + 23))) 31 (.int (-6))) = mo M (fun x => if x = 25 ∨ x = 31 then -6 else 0) := rfl
theorem k_newM (P : Nat × Nat) {M s : Nat} {h : am_H} (h1 : h.1 = M + 1) (h2 : h.2.1 = s) (hM : h.2.2 M = ac_O 9 (p_df 9)) : ∃ h', am_E P 71 0 [some (.ref M), none] [] h = some (none, h') ∧ MS M (M + 24) (s + 44437) h.2.2 0 h' S0 := by
  have c0 : CN M 0 s g9 h.2.2 h := ⟨h1, h2, by rw [hM, df9], fun i i1 i2 => by omega, fun _ _ => rfl⟩
  obtain ⟨a4, b4, c4⟩ := k_newM_C P c0
  have hv : MV M (M + 24) (s + 44437) h.2.2 a4 (fun x => if x = 25 ∨ x = 31 then -6 else 0) (fun _ _ => 0) := by
    obtain ⟨q1, q2, q3, q5, q6⟩ := c4
    refine ⟨by omega, q2, ?_, fun j j1 j2 => q5 j j1 j2, fun a ha => q6 a ha⟩
    rw [q3, vl_mo]
  obtain ⟨h'', F', i1, i2, i3, i4⟩ := k_newM_L P hv
  refine ⟨h'', ?_, _, F', i2, ?_, ?_, by simp⟩
  · have start : am_E P 71 0 [some (.ref M), none] [] h = am_E P 71 4 [some (.ref M), none] [] h := by
      rw [r71.1, r71.2.2.1]
    rw [start, b4, i1]
  · simp [m_f, m_l, S0]
    rfl
  · have zz : nI 0 = 0 := rfl
    refine ⟨fun o ho => ?_, fun o k ho hk => ?_, fun i hi => ?_, fun o i ho hi => ?_, fun o k ho hk => ?_, fun r hr => ?_, fun i hi => ?_⟩
    · simp [i3, S0, zz]
    · simp [i3, S0]
    · simp [S0] at hi
    · simp [S0] at hi
    · have := i4 (10 * o + k) (by omega)
      simp [i3, S0, this]
    · simp [S0] at hr
    · simp [S0] at hi
theorem KI_0 : KI S0 0 := by
  have v : ∀ a b c, S0.1 a b c = 0 := fun _ _ _ => rfl
  have hin : IN S0 := by
    refine ⟨⟨fun o p _ hp => by rw [v] at hp; omega, fun o i _ hi => by rw [v] at hi; omega, fun o _ => by rw [v]; omega, fun i hi => by rw [v] at hi; omega, fun i hi => by rw [v] at hi; omega, rfl, rfl, fun o _ => rfl⟩, Or.inl rfl, by rw [v]; omega, fun o _ => ⟨rfl, rfl⟩, fun o p ho => by rw [v] at ho; omega, fun o ho => by rw [v] at ho; omega, fun o ho => by rw [v] at ho; omega, by decide, by decide⟩
  have hpd : PD S0 = 0 := rfl
  refine ⟨⟨⟨hin, by rw [hpd]; omega⟩, by decide, Nat.le_refl _, ⟨0, Nat.le_refl _, rfl⟩, fun o => by rw [v]; omega, fun o j _ hj => by rw [v] at hj; omega, fun o _ => ⟨rfl, rfl, rfl, fun k _ => ⟨rfl, rfl, rfl⟩⟩, fun i hi => by rw [v] at hi; omega, Or.inl rfl, fun o ho => by rw [v] at ho; omega, by rw [v]; omega, fun r hr => by rw [v] at hr; omega⟩, fun _ o p hp => by rw [v] at hp; omega⟩






