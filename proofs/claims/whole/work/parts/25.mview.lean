/-! The model's memory. -/
/-- the model's object, by its numbers -/
def mo (M : Nat) (f : Nat → Int32) : List Value := [.int (f 0), .ref (M + 1), .ref (M + 2), .ref (M + 3), .ref (M + 4), .ref (M + 5), .ref (M + 6), .ref (M + 7), .int (f 8), .ref (M + 8), .ref (M + 9), .ref (M + 10), .ref (M + 11), .ref (M + 12), .ref (M + 13), .ref (M + 14), .ref (M + 15), .ref (M + 16), .ref (M + 17), .ref (M + 18), .ref (M + 19), .ref (M + 20), .int (f 22), .ref (M + 21), .ref (M + 22), .int (f 25), .ref (M + 23), .int (f 27), .int (f 28), .int (f 29), .int (f 30), .int (f 31), .int (f 32), .int (f 33)]
theorem mo_g (M : Nat) (f : Nat → Int32) : (mo M f)[0]? = some (.int (f 0)) ∧ (mo M f)[1]? = some (.ref (M + 1)) ∧ (mo M f)[2]? = some (.ref (M + 2)) ∧ (mo M f)[3]? = some (.ref (M + 3)) ∧ (mo M f)[4]? = some (.ref (M + 4)) ∧ (mo M f)[5]? = some (.ref (M + 5)) ∧ (mo M f)[6]? = some (.ref (M + 6)) ∧ (mo M f)[7]? = some (.ref (M + 7)) ∧ (mo M f)[8]? = some (.int (f 8)) ∧ (mo M f)[9]? = some (.ref (M + 8)) ∧ (mo M f)[10]? = some (.ref (M + 9)) ∧ (mo M f)[11]? = some (.ref (M + 10)) ∧ (mo M f)[12]? = some (.ref (M + 11)) ∧ (mo M f)[13]? = some (.ref (M + 12)) ∧ (mo M f)[14]? = some (.ref (M + 13)) ∧ (mo M f)[15]? = some (.ref (M + 14)) ∧ (mo M f)[16]? = some (.ref (M + 15)) ∧ (mo M f)[17]? = some (.ref (M + 16)) ∧ (mo M f)[18]? = some (.ref (M + 17)) ∧ (mo M f)[19]? = some (.ref (M + 18)) ∧ (mo M f)[20]? = some (.ref (M + 19)) ∧ (mo M f)[21]? = some (.ref (M + 20)) ∧ (mo M f)[22]? = some (.int (f 22)) ∧ (mo M f)[23]? = some (.ref (M + 21)) ∧ (mo M f)[24]? = some (.ref (M + 22)) ∧ (mo M f)[25]? = some (.int (f 25)) ∧ (mo M f)[26]? = some (.ref (M + 23)) ∧ (mo M f)[27]? = some (.int (f 27)) ∧ (mo M f)[28]? = some (.int (f 28)) ∧ (mo M f)[29]? = some (.int (f 29)) ∧ (mo M f)[30]? = some (.int (f 30)) ∧ (mo M f)[31]? = some (.int (f 31)) ∧ (mo M f)[32]? = some (.int (f 32)) ∧ (mo M f)[33]? = some (.int (f 33)) := ⟨rfl, rfl, rfl, rfl, rfl, rfl, rfl, rfl, rfl, rfl, rfl, rfl, rfl, rfl, rfl, rfl, rfl, rfl, rfl, rfl, rfl, rfl, rfl, rfl, rfl, rfl, rfl, rfl, rfl, rfl, rfl, rfl, rfl, rfl⟩
theorem mo_len (M : Nat) (f : Nat → Int32) : (mo M f).length = 34 := rfl
theorem mo_s (M : Nat) (f : Nat → Int32) (v : Int32) : (mo M f).set 0 (.int v) = mo M (va_up f 0 v) ∧ (mo M f).set 8 (.int v) = mo M (va_up f 8 v) ∧ (mo M f).set 22 (.int v) = mo M (va_up f 22 v) ∧ (mo M f).set 25 (.int v) = mo M (va_up f 25 v) ∧ (mo M f).set 27 (.int v) = mo M (va_up f 27 v) ∧ (mo M f).set 28 (.int v) = mo M (va_up f 28 v) ∧ (mo M f).set 29 (.int v) = mo M (va_up f 29 v) ∧ (mo M f).set 30 (.int v) = mo M (va_up f 30 v) ∧ (mo M f).set 31 (.int v) = mo M (va_up f 31 v) ∧ (mo M f).set 32 (.int v) = mo M (va_up f 32 v) ∧ (mo M f).set 33 (.int v) = mo M (va_up f 33 v) := ⟨rfl, rfl, rfl, rfl, rfl, rfl, rfl, rfl, rfl, rfl, rfl⟩
/-- the lengths of its arrays, at M + j -/
def ml (j : Nat) : Nat := match j with
  | 1 => 3 | 2 => 3 | 3 => 60 | 4 => 60 | 5 => 3 | 6 => 3 | 7 => 3 | 8 => 4000 | 9 => 4000 | 10 => 4000 | 11 => 4000 | 12 => 4000 | 13 => 3 | 14 => 6000 | 15 => 6000 | 16 => 6000 | 17 => 6000 | 18 => 30 | 19 => 30 | 20 => 30 | 21 => 4 | 22 => 4 | 23 => 201 | _ => 0
def MV (M n s : Nat) (mem : Nat → am_C) (h : am_H) (f : Nat → Int32) (F : Nat → Nat → Int32) : Prop := h.1 = n ∧ h.2.1 = s ∧ h.2.2 M = ac_O 9 (mo M f) ∧ (∀ j, 1 ≤ j → j ≤ 23 → h.2.2 (M + j) = ac_I (ml j) (F j)) ∧ (∀ a, a < M ∨ M + 23 < a → h.2.2 a = mem a)
theorem MV.p {M n s : Nat} {mem : Nat → am_C} {h : am_H} {f : Nat → Int32} {F : Nat → Nat → Int32} (hv : MV M n s mem h f F) (k : Nat) (v : Int32) : MV M n s mem (ah_put h M (ac_O 9 (mo M (va_up f k v)))) (va_up f k v) F := by
  obtain ⟨h1, h2, h3, h4, h5⟩ := hv
  refine ⟨h1, h2, ah_same _ _ _, fun j a b => ?_, fun a ha => ?_⟩
  · rw [ah_ne (by omega)]; exact h4 j a b
  · rw [ah_ne (by omega)]; exact h5 a ha
theorem MV.a {M n s : Nat} {mem : Nat → am_C} {h : am_H} {f : Nat → Int32} {F : Nat → Nat → Int32} (hv : MV M n s mem h f F) (j : Nat) (h1 : 1 ≤ j) (h2 : j ≤ 23) (q : Nat) (x : Int32) : MV M n s mem (ah_put h (M + j) (ac_I (ml j) (upd (F j) q x))) f (va_up F j (upd (F j) q x)) := by
  obtain ⟨g1, g2, g3, g4, g5⟩ := hv
  refine ⟨g1, g2, by rw [ah_ne (by omega)]; exact g3, fun i a b => ?_, fun a ha => ?_⟩
  · by_cases hi : i = j
    · subst hi; rw [ah_same]; simp [va_up]
    · rw [ah_ne (by omega), g4 i a b]; simp [va_up, hi]
  · rw [ah_ne (by omega)]; exact g5 a ha
/-- the model's 'left': NONE where power stays -/
def m_l (x : Int32) : Int32 := if x = 0 then -6 else x
/-- the model's numbers against the pure state -/
def m_f (f : Nat → Int32) (S : sp) : Prop := f 0 = nI (S.1 0 0 0) ∧ f 8 = nI (S.1 1 0 0) ∧ f 22 = nI (S.1 3 0 0) ∧ f 25 = S.2 0 0 0 ∧ f 27 = nI (S.1 2 0 0) ∧ f 28 = S.2 0 5 0 ∧ f 29 = S.2 0 1 0 ∧ f 30 = S.2 0 2 0 ∧ f 31 = m_l (S.2 0 3 0) ∧ f 32 = S.2 0 4 0
def m_F (F : Nat → Nat → Int32) (S : sp) : Prop :=
  (∀ o, o < 3 → F 1 o = S.2 1 o 0 ∧ F 2 o = nI (S.1 4 o 0) ∧ F 5 o = nI (S.1 5 o 0) ∧ F 6 o = S.2 1 o 1 ∧ F 7 o = S.2 1 o 2 ∧ F 13 o = nI (S.1 6 o 0)) ∧
  (∀ o k, o < 3 → k < 20 → F 3 (20 * o + k) = S.2 2 o k ∧ F 4 (20 * o + k) = S.2 3 o k) ∧
  (∀ i, i < S.1 1 0 0 → F 8 i = S.2 4 i 0 ∧ F 9 i = S.2 4 i 1 ∧ F 10 i = S.2 4 i 2 ∧ F 11 i = S.2 4 i 3 ∧ F 12 i = S.2 4 i 4) ∧
  (∀ o i, o < 3 → i < S.1 6 o 0 → F 14 (2000 * o + i) = S.2 6 o i ∧ F 15 (2000 * o + i) = S.2 7 o i ∧ F 16 (2000 * o + i) = S.2 8 o i ∧ F 17 (2000 * o + i) = S.2 9 o i) ∧
  (∀ o k, o < 3 → k < 10 → F 18 (10 * o + k) = S.2 10 o k ∧ F 19 (10 * o + k) = S.2 11 o k ∧ F 20 (10 * o + k) = S.2 12 o k) ∧
  (∀ r, r < S.1 3 0 0 → F 21 r = nI (S.1 7 r 0) ∧ F 22 r = nI (S.1 8 r 0)) ∧
  (∀ i, i < S.1 2 0 0 → F 23 i = S.2 5 i 0)
/-- the model's memory against the pure state; pd: its partsDone -/
def MS (M n s : Nat) (mem : Nat → am_C) (pd : Int32) (h : am_H) (S : sp) : Prop := ∃ f F, MV M n s mem h f F ∧ m_f f S ∧ m_F F S ∧ f 33 = pd
section MA
variable {M n s : Nat} {mem : Nat → am_C} {h : am_H} {f : Nat → Int32} {F : Nat → Nat → Int32}
theorem MV.at (hv : MV M n s mem h f F) (j : Nat) (h1 : 1 ≤ j) (h2 : j ≤ 23) : h.2.2 (M + j) = ac_I (ml j) (F j) := hv.2.2.2.1 j h1 h2
end MA
theorem k_no (P : Nat × Nat) (h : am_H) (v l u : Int32) : am_E P 74 0 [some (.int v), some (.int l), some (.int u)] [] h = some (some (.int (if v < l ∨ u < v then 1 else 0)), h) := by
  simp only [r74]
  by_cases h1 : v < l
  · simp [h1]
  · by_cases h2 : u < v
    · simp [h1, h2]
    · simp [h1, h2]
theorem k_great (P : Nat × Nat) (h : am_H) (x y : Int32) : am_E P 72 0 [some (.int x), some (.int y)] [] h = some (some (.int (if y < x then x else y)), h) := by
  simp only [r72]
  by_cases h1 : x ≤ y
  · have : ¬ y < x := Int32.not_lt.mpr h1
    simp [h1, this]
  · have : y < x := Int32.not_le.mp h1
    simp [h1, this]
theorem k_small (P : Nat × Nat) (h : am_H) (x y : Int32) : am_E P 73 0 [some (.int x), some (.int y)] [] h = some (some (.int (if x < y then x else y)), h) := by
  simp only [r73]
  by_cases h1 : y ≤ x
  · have : ¬ x < y := Int32.not_lt.mpr h1
    simp [h1, this]
  · have : x < y := Int32.not_le.mp h1
    simp [h1, this]
