/-! The class: objects by their fields; lists; rows of numbers. -/
section CB
variable {h : am_H} {a ci : Nat}
theorem g1_of {fs : List Value} (hc : h.2.2 a = ac_O ci fs) (k : Nat) : am_g1 h a ci k = fs[k]? := by
  unfold am_g1
  rw [hc]
  simp
theorem p1_of {fs : List Value} (hc : h.2.2 a = ac_O ci fs) (k : Nat) (v : Value) (hk : k < fs.length) : am_p1 h a ci k v = some (ah_put h a (ac_O ci (fs.set k v))) := by
  unfold am_p1
  rw [hc]
  simp [hk]
theorem gR_of {fs : List Value} (hc : h.2.2 a = ac_O ci fs) (hi : ci = 2 ∨ ci = 3) (k : Nat) : am_gR h a k = fs[k]? := by
  unfold am_gR
  rw [hc]
  simp [hi]
theorem pR_of {fs : List Value} (hc : h.2.2 a = ac_O ci fs) (hi : ci = 2 ∨ ci = 3) (k : Nat) (v : Value) (hk : k < fs.length) : am_pR h a k v = some (ah_put h a (ac_O ci (fs.set k v))) := by
  unfold am_pR
  rw [hc]
  simp [hk, hi]
theorem cl_of {fs : List Value} (hc : h.2.2 a = ac_O ci fs) : am_cls h a = some ci := by
  unfold am_cls
  rw [hc]
variable {x0 x1 x2 x3 x4 x5 x6 x7 x8 x9 : Value}
theorem o3 (hc : h.2.2 a = ac_O ci [x0, x1, x2]) : am_cls h a = some ci ∧ am_g1 h a ci 0 = some x0 ∧ am_g1 h a ci 1 = some x1 ∧ am_g1 h a ci 2 = some x2 ∧ (∀ v, am_p1 h a ci 0 v = some (ah_put h a (ac_O ci [v, x1, x2]))) ∧ (∀ v, am_p1 h a ci 1 v = some (ah_put h a (ac_O ci [x0, v, x2]))) ∧ (∀ v, am_p1 h a ci 2 v = some (ah_put h a (ac_O ci [x0, x1, v]))) :=
  ⟨cl_of hc, g1_of hc 0, g1_of hc 1, g1_of hc 2, fun v => p1_of hc 0 v (by simp), fun v => p1_of hc 1 v (by simp), fun v => p1_of hc 2 v (by simp)⟩
theorem oR (hc : h.2.2 a = ac_O ci [x0, x1, x2]) (hi : ci = 2 ∨ ci = 3) : am_cls h a = some ci ∧ am_gR h a 0 = some x0 ∧ am_gR h a 1 = some x1 ∧ am_gR h a 2 = some x2 ∧ (∀ v, am_pR h a 0 v = some (ah_put h a (ac_O ci [v, x1, x2]))) ∧ (∀ v, am_pR h a 1 v = some (ah_put h a (ac_O ci [x0, v, x2]))) ∧ (∀ v, am_pR h a 2 v = some (ah_put h a (ac_O ci [x0, x1, v]))) ∧ (am_cls h a = some 2 ∨ am_cls h a = some 3) :=
  ⟨cl_of hc, gR_of hc hi 0, gR_of hc hi 1, gR_of hc hi 2, fun v => pR_of hc hi 0 v (by simp), fun v => pR_of hc hi 1 v (by simp), fun v => pR_of hc hi 2 v (by simp), by rw [cl_of hc]; rcases hi with rfl | rfl <;> simp⟩
theorem o4 (hc : h.2.2 a = ac_O ci [x0, x1, x2, x3]) : am_cls h a = some ci ∧ am_g1 h a ci 0 = some x0 ∧ am_g1 h a ci 1 = some x1 ∧ am_g1 h a ci 2 = some x2 ∧ am_g1 h a ci 3 = some x3 ∧ (∀ v, am_p1 h a ci 0 v = some (ah_put h a (ac_O ci [v, x1, x2, x3]))) ∧ (∀ v, am_p1 h a ci 1 v = some (ah_put h a (ac_O ci [x0, v, x2, x3]))) ∧ (∀ v, am_p1 h a ci 2 v = some (ah_put h a (ac_O ci [x0, x1, v, x3]))) ∧ (∀ v, am_p1 h a ci 3 v = some (ah_put h a (ac_O ci [x0, x1, x2, v]))) :=
  ⟨cl_of hc, g1_of hc 0, g1_of hc 1, g1_of hc 2, g1_of hc 3, fun v => p1_of hc 0 v (by simp), fun v => p1_of hc 1 v (by simp), fun v => p1_of hc 2 v (by simp), fun v => p1_of hc 3 v (by simp)⟩
theorem o7 (hc : h.2.2 a = ac_O ci [x0, x1, x2, x3, x4, x5, x6]) : am_cls h a = some ci ∧ (am_g1 h a ci 0 = some x0 ∧ am_g1 h a ci 1 = some x1 ∧ am_g1 h a ci 2 = some x2 ∧ am_g1 h a ci 3 = some x3 ∧ am_g1 h a ci 4 = some x4 ∧ am_g1 h a ci 5 = some x5 ∧ am_g1 h a ci 6 = some x6) ∧ (∀ v, am_p1 h a ci 0 v = some (ah_put h a (ac_O ci [v, x1, x2, x3, x4, x5, x6]))) ∧ (∀ v, am_p1 h a ci 1 v = some (ah_put h a (ac_O ci [x0, v, x2, x3, x4, x5, x6]))) ∧ (∀ v, am_p1 h a ci 2 v = some (ah_put h a (ac_O ci [x0, x1, v, x3, x4, x5, x6]))) ∧ (∀ v, am_p1 h a ci 3 v = some (ah_put h a (ac_O ci [x0, x1, x2, v, x4, x5, x6]))) ∧ (∀ v, am_p1 h a ci 4 v = some (ah_put h a (ac_O ci [x0, x1, x2, x3, v, x5, x6]))) ∧ (∀ v, am_p1 h a ci 5 v = some (ah_put h a (ac_O ci [x0, x1, x2, x3, x4, v, x6]))) ∧ (∀ v, am_p1 h a ci 6 v = some (ah_put h a (ac_O ci [x0, x1, x2, x3, x4, x5, v]))) :=
  ⟨cl_of hc, ⟨g1_of hc 0, g1_of hc 1, g1_of hc 2, g1_of hc 3, g1_of hc 4, g1_of hc 5, g1_of hc 6⟩, fun v => p1_of hc 0 v (by simp), fun v => p1_of hc 1 v (by simp), fun v => p1_of hc 2 v (by simp), fun v => p1_of hc 3 v (by simp), fun v => p1_of hc 4 v (by simp), fun v => p1_of hc 5 v (by simp), fun v => p1_of hc 6 v (by simp)⟩
theorem o9 (hc : h.2.2 a = ac_O ci [x0, x1, x2, x3, x4, x5, x6, x7, x8]) : am_cls h a = some ci ∧ (am_g1 h a ci 0 = some x0 ∧ am_g1 h a ci 1 = some x1 ∧ am_g1 h a ci 2 = some x2 ∧ am_g1 h a ci 3 = some x3 ∧ am_g1 h a ci 4 = some x4 ∧ am_g1 h a ci 5 = some x5 ∧ am_g1 h a ci 6 = some x6 ∧ am_g1 h a ci 7 = some x7 ∧ am_g1 h a ci 8 = some x8) ∧ (∀ v, am_p1 h a ci 0 v = some (ah_put h a (ac_O ci [v, x1, x2, x3, x4, x5, x6, x7, x8]))) ∧ (∀ v, am_p1 h a ci 1 v = some (ah_put h a (ac_O ci [x0, v, x2, x3, x4, x5, x6, x7, x8]))) ∧ (∀ v, am_p1 h a ci 2 v = some (ah_put h a (ac_O ci [x0, x1, v, x3, x4, x5, x6, x7, x8]))) ∧ (∀ v, am_p1 h a ci 3 v = some (ah_put h a (ac_O ci [x0, x1, x2, v, x4, x5, x6, x7, x8]))) ∧ (∀ v, am_p1 h a ci 4 v = some (ah_put h a (ac_O ci [x0, x1, x2, x3, v, x5, x6, x7, x8]))) ∧ (∀ v, am_p1 h a ci 5 v = some (ah_put h a (ac_O ci [x0, x1, x2, x3, x4, v, x6, x7, x8]))) ∧ (∀ v, am_p1 h a ci 6 v = some (ah_put h a (ac_O ci [x0, x1, x2, x3, x4, x5, v, x7, x8]))) ∧ (∀ v, am_p1 h a ci 7 v = some (ah_put h a (ac_O ci [x0, x1, x2, x3, x4, x5, x6, v, x8]))) ∧ (∀ v, am_p1 h a ci 8 v = some (ah_put h a (ac_O ci [x0, x1, x2, x3, x4, x5, x6, x7, v]))) :=
  ⟨cl_of hc, ⟨g1_of hc 0, g1_of hc 1, g1_of hc 2, g1_of hc 3, g1_of hc 4, g1_of hc 5, g1_of hc 6, g1_of hc 7, g1_of hc 8⟩, fun v => p1_of hc 0 v (by simp), fun v => p1_of hc 1 v (by simp), fun v => p1_of hc 2 v (by simp), fun v => p1_of hc 3 v (by simp), fun v => p1_of hc 4 v (by simp), fun v => p1_of hc 5 v (by simp), fun v => p1_of hc 6 v (by simp), fun v => p1_of hc 7 v (by simp), fun v => p1_of hc 8 v (by simp)⟩
theorem o10 (hc : h.2.2 a = ac_O ci [x0, x1, x2, x3, x4, x5, x6, x7, x8, x9]) : am_cls h a = some ci ∧ (am_g1 h a ci 0 = some x0 ∧ am_g1 h a ci 1 = some x1 ∧ am_g1 h a ci 2 = some x2 ∧ am_g1 h a ci 3 = some x3 ∧ am_g1 h a ci 4 = some x4 ∧ am_g1 h a ci 5 = some x5 ∧ am_g1 h a ci 6 = some x6 ∧ am_g1 h a ci 7 = some x7 ∧ am_g1 h a ci 8 = some x8 ∧ am_g1 h a ci 9 = some x9) ∧ (∀ v, am_p1 h a ci 0 v = some (ah_put h a (ac_O ci [v, x1, x2, x3, x4, x5, x6, x7, x8, x9]))) ∧ (∀ v, am_p1 h a ci 1 v = some (ah_put h a (ac_O ci [x0, v, x2, x3, x4, x5, x6, x7, x8, x9]))) ∧ (∀ v, am_p1 h a ci 2 v = some (ah_put h a (ac_O ci [x0, x1, v, x3, x4, x5, x6, x7, x8, x9]))) ∧ (∀ v, am_p1 h a ci 3 v = some (ah_put h a (ac_O ci [x0, x1, x2, v, x4, x5, x6, x7, x8, x9]))) ∧ (∀ v, am_p1 h a ci 4 v = some (ah_put h a (ac_O ci [x0, x1, x2, x3, v, x5, x6, x7, x8, x9]))) ∧ (∀ v, am_p1 h a ci 5 v = some (ah_put h a (ac_O ci [x0, x1, x2, x3, x4, v, x6, x7, x8, x9]))) ∧ (∀ v, am_p1 h a ci 6 v = some (ah_put h a (ac_O ci [x0, x1, x2, x3, x4, x5, v, x7, x8, x9]))) ∧ (∀ v, am_p1 h a ci 7 v = some (ah_put h a (ac_O ci [x0, x1, x2, x3, x4, x5, x6, v, x8, x9]))) ∧ (∀ v, am_p1 h a ci 8 v = some (ah_put h a (ac_O ci [x0, x1, x2, x3, x4, x5, x6, x7, v, x9]))) ∧ (∀ v, am_p1 h a ci 9 v = some (ah_put h a (ac_O ci [x0, x1, x2, x3, x4, x5, x6, x7, x8, v]))) :=
  ⟨cl_of hc, ⟨g1_of hc 0, g1_of hc 1, g1_of hc 2, g1_of hc 3, g1_of hc 4, g1_of hc 5, g1_of hc 6, g1_of hc 7, g1_of hc 8, g1_of hc 9⟩, fun v => p1_of hc 0 v (by simp), fun v => p1_of hc 1 v (by simp), fun v => p1_of hc 2 v (by simp), fun v => p1_of hc 3 v (by simp), fun v => p1_of hc 4 v (by simp), fun v => p1_of hc 5 v (by simp), fun v => p1_of hc 6 v (by simp), fun v => p1_of hc 7 v (by simp), fun v => p1_of hc 8 v (by simp), fun v => p1_of hc 9 v (by simp)⟩
end CB
section CC
variable {h : am_H} {a n k : Nat}
theorem aald_R {g : Nat → Option Nat} (hc : h.2.2 a = ac_R n g) (hk : k < n) (hn : n < 2 ^ 31) : am_aald h a (nI k) = some (g k) := by
  unfold am_aald
  rw [hc]
  simp only [am_ix_nI hk hn, Option.map_some]
theorem aast_R {g : Nat → Option Nat} {v ci : Nat} {fs : List Value} (hc : h.2.2 a = ac_R n g) (hv : h.2.2 v = ac_O ci fs) (hci : ci ≠ 0) (hk : k < n) (hn : n < 2 ^ 31) : am_aast h a (nI k) v = some (ah_put h a (ac_R n (va_up g k (some v)))) := by
  unfold am_aast
  rw [hc]
  simp only [hv, if_neg hci, am_ix_nI hk hn, Option.map_some]
theorem alen_R {g : Nat → Option Nat} (hc : h.2.2 a = ac_R n g) : am_alen h a = some (nI n) := by
  unfold am_alen
  rw [hc]
  rfl
theorem alen_I {g : Nat → Int32} (hc : h.2.2 a = ac_I n g) : am_alen h a = some (nI n) := by
  unfold am_alen
  rw [hc]
  rfl
theorem alen_E (hc : h.2.2 a = ac_E) : am_alen h a = some (nI 0) := by
  unfold am_alen
  rw [hc]
  rfl
theorem isR_of {g : Nat → Option Nat} (hc : h.2.2 a = ac_R n g) : am_isR h a = true := by
  unfold am_isR
  rw [hc]
end CC
theorem c_max (P : Nat × Nat) (h : am_H) (x y : Int32) : am_E P 111 0 [some (.int x), some (.int y)] [] h = some (some (.int (if x < y then y else x)), h) := by
  simp only [r111]
  by_cases h1 : x < y
  · simp [h1]
  · simp [h1]
theorem c_min (P : Nat × Nat) (h : am_H) (x y : Int32) : am_E P 112 0 [some (.int x), some (.int y)] [] h = some (some (.int (if y < x then y else x)), h) := by
  simp only [r112]
  by_cases h1 : y < x
  · simp [h1]
  · simp [h1]
theorem c_size (P : Nat × Nat) {h : am_H} {l : Nat} {x y : Value} {n : Int32} (hc : h.2.2 l = ac_O 0 [x, y, .int n]) : am_E P 118 0 [some (.ref l)] [] h = some (some (.int n), h) := by
  simp only [r118, o3 hc, Option.bind_some]
theorem c_ckix (P : Nat × Nat) (h : am_H) {i n : Nat} (hi : i < n) (hn : n < 2 ^ 31) : am_E P 127 0 [some (.int (nI i)), some (.int (nI n))] [] h = some (some (.int (nI i)), h) := by
  have c1 : ¬ nI i < 0 := nI_pos (by omega)
  have c2 : nI i < nI n := nI_lt hi hn
  simp only [r127, r129, if_neg c1, if_pos c2, Option.bind_some, Option.toList, List.nil_append, List.cons_append]
theorem c_get (P : Nat × Nat) {h : am_H} {l e i n cap b : Nat} {x : Value} {g : Nat → Option Nat} (hc : h.2.2 l = ac_O 0 [x, .ref e, .int (nI n)]) (he : h.2.2 e = ac_R cap g) (hi : i < n) (hn : n ≤ cap) (hcap : cap < 2 ^ 31) (hg : g i = some b) : am_E P 120 0 [some (.ref l), some (.int (nI i))] [] h = some (some (.ref b), h) := by
  simp only [r120, o3 hc, Option.bind_some, c_ckix P h hi (show n < 2 ^ 31 by omega), Option.toList, List.nil_append, List.cons_append, if_true, r119, aald_R he (show i < cap by omega) hcap, hg, va_rf]
