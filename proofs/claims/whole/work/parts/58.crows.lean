/-! The class: rows of numbers. d: the object, w: its width, n: its rows, e: its cells. -/
def RW (h : am_H) (d ci w e n N : Nat) (f : Nat → Int32) : Prop := h.2.2 d = ac_O ci [.int (nI w), .ref e, .int (nI n)] ∧ h.2.2 e = ac_I N f ∧ (ci = 2 ∨ ci = 3) ∧ n * w ≤ N ∧ N ≤ 300000 ∧ (w = 4 ∨ w = 5) ∧ d ≠ e ∧ d < h.1 ∧ e < h.1 ∧ n ≤ 20000
section RWs
variable {h : am_H} {d ci w e n N : Nat} {f : Nat → Int32}
theorem c_count (P : Nat × Nat) {x y : Value} {m : Int32} (hc : h.2.2 d = ac_O ci [x, y, .int m]) (hi : ci = 2 ∨ ci = 3) : am_E P 24 0 [some (.ref d)] [] h = some (some (.int m), h) := by
  simp only [r24, oR hc hi, Option.bind_some]
theorem c_has (P : Nat × Nat) (hw : RW h d ci w e n N f) (i c : Int32) : am_E P 25 0 [some (.ref d), some (.int i), some (.int c)] [] h = some (some (.int (if i < 0 ∨ nI n ≤ i ∨ c < 0 ∨ nI w ≤ c then 0 else 1)), h) := by
  obtain ⟨a1, a2, a3, a4, a5, a6, a7, a8⟩ := hw
  simp only [r25, oR a1 a3, Option.bind_some]
  by_cases h1 : i < 0
  · simp [h1]
  · by_cases h2 : nI n ≤ i
    · simp [h1, h2]
    · by_cases h3 : c < 0
      · simp [h1, h2, h3]
      · by_cases h4 : nI w ≤ c
        · simp [h1, h2, h3, h4]
        · simp [h1, h2, h3, h4]
theorem c_has1 (P : Nat × Nat) (hw : RW h d ci w e n N f) {i c : Nat} (hi : i < n) (hc : c < w) : am_E P 25 0 [some (.ref d), some (.int (nI i)), some (.int (nI c))] [] h = some (some (.int 1), h) := by
  rw [c_has P hw, if_neg]
  obtain ⟨a1, a2, a3, a4, a5, a6, a7, a8, a9, a10⟩ := hw
  have h1 : ¬ nI i < 0 := nI_pos (by omega)
  have h2 : ¬ nI n ≤ nI i := nI_ge hi (by omega)
  have h3 : ¬ nI c < 0 := nI_pos (by omega)
  have h4 : ¬ nI w ≤ nI c := nI_ge hc (by omega)
  simp [h1, h2, h3, h4]
theorem rw_ix {i c n w N : Nat} (hi : i < n) (hc : c < w) (hN : n * w ≤ N) : i * w + c < N := by
  have h1 : (i + 1) * w ≤ n * w := Nat.mul_le_mul_right w hi
  rw [Nat.add_mul] at h1
  omega
theorem c_cell (P : Nat × Nat) (hw : RW h d ci w e n N f) {i c : Nat} (hi : i < n) (hc : c < w) : am_E P 26 0 [some (.ref d), some (.int (nI i)), some (.int (nI c))] [] h = some (some (.int (f (i * w + c))), h) := by
  have hh := c_has1 P hw hi hc
  obtain ⟨a1, a2, a3, a4, a5, a6, a7, a8⟩ := hw
  have c1 : ¬ (1 : Int32) = 0 := by decide
  have h3 : (some ci = some 2 ∨ some ci = some 3) := by rcases a3 with rfl | rfl <;> simp
  simp only [r26, if_pos h3, hh, Option.bind_some, Option.toList, List.nil_append, List.cons_append, if_neg c1, oR a1 a3, nI_m, nI_add, iald_I a2 (rw_ix hi hc a4) (show N < 2 ^ 31 by omega)]
theorem c_set (P : Nat × Nat) (hw : RW h d ci w e n N f) {i c : Nat} (hi : i < n) (hc : c < w) (x : Int32) : am_E P 27 0 [some (.ref d), some (.int (nI i)), some (.int (nI c)), some (.int x)] [] h = some (none, ah_put h e (ac_I N (upd f (i * w + c) x))) := by
  have hh := c_has1 P hw hi hc
  obtain ⟨a1, a2, a3, a4, a5, a6, a7, a8⟩ := hw
  have c1 : ¬ (1 : Int32) = 0 := by decide
  have h3 : (some ci = some 2 ∨ some ci = some 3) := by rcases a3 with rfl | rfl <;> simp
  simp only [r27, if_pos h3, hh, Option.bind_some, Option.toList, List.nil_append, List.cons_append, if_neg c1, oR a1 a3, nI_m, nI_add, iast_I a2 (rw_ix hi hc a4) (show N < 2 ^ 31 by omega)]
theorem RW.set (hw : RW h d ci w e n N f) (g : Nat → Int32) : RW (ah_put h e (ac_I N g)) d ci w e n N g := by
  obtain ⟨a1, a2, a3, a4, a5, a6, a7, a8⟩ := hw
  exact ⟨by rw [ah_ne a7]; exact a1, ah_same _ _ _, a3, a4, a5, a6, a7, a8⟩
theorem c_cpI (P : Nat × Nat) {h : am_H} {e n m : Nat} {g : Nat → Int32} (he : h.2.2 e = ac_I n g) (hlt : e < h.1) (hm : n < m) (hm2 : m ≤ 1000000) : am_E P 126 0 [some (.ref e), some (.int (nI m)), none] [] h = some (some (.ref h.1), ah_put (ah_new h m (ac_I m (fun _ => 0))) h.1 (ac_I m (va_cpy g (fun _ => 0) 0 0 n))) := by
  have he' : (ah_new h m (ac_I m (fun _ => 0))).2.2 e = ac_I n g := by rw [an_ne (by omega)]; exact he
  have c1 : (if nI m < nI n then nI m else nI n) = nI n := if_neg (nI_nlt (by omega) (by omega))
  have c2 : ¬ nI m = nI n := by rw [nI_eq (by omega) (by omega)]; omega
  have hcp := copy_I (h := ah_new h m (ac_I m (fun _ => 0))) (a := e) (b := h.1) (k := n) (by omega) he' (an_same h m _) (Nat.le_refl n) (by omega) (by omega)
  simp only [r126, alen_I he, if_neg c2, if_neg (nI_room hm2), nI_clamp (show m < 2 ^ 31 by omega), alen_I he', c_min, Option.bind_some, Option.toList, List.nil_append, List.cons_append, c1, hcp]
/-- a row more -/
theorem c_addRow (P : Nat × Nat) (hw : RW h d ci w e n N f) (hn : n < 20000) : ∃ h' e' N' f', am_E P 28 0 [some (.ref d), none] [] h = some (some (.int (nI n)), h') ∧ RW h' d ci w e' (n + 1) N' f' ∧ (∀ q, q < n * w → f' q = f q) ∧ ((e' = e ∧ h'.1 = h.1 ∧ h'.2.1 = h.2.1) ∨ (e' = h.1 ∧ h'.1 = h.1 + 1 ∧ h'.2.1 = h.2.1 + 2 * ((n + 1) * w))) ∧ (∀ a, a ≠ d → a ≠ e' → h'.2.2 a = h.2.2 a) := by
  obtain ⟨a1, a2, a3, a4, a5, a6, a7, a8, a9, a10⟩ := hw
  have hb : (n + 1) * w ≤ 100000 := by rcases a6 with rfl | rfl <;> omega
  by_cases hc : (n + 1) * w ≤ N
  · refine ⟨ah_put h d (ac_O ci [.int (nI w), .ref e, .int (nI (n + 1))]), e, N, f, ?_, ⟨ah_same _ _ _, by rw [ah_ne (Ne.symm a7)]; exact a2, a3, hc, a5, a6, a7, a8, a9, by omega⟩, fun _ _ => rfl, Or.inl ⟨rfl, rfl, rfl⟩, fun a h1 h2 => ah_ne h1⟩
    have c1 : nI ((n + 1) * w) ≤ nI N := nI_le hc (by omega)
    simp only [r28, oR a1 a3, Option.bind_some, nI_1, nI_m, alen_I a2, if_pos c1]
  · have hcp := c_cpI P (m := 2 * ((n + 1) * w)) a2 a9 (by omega) (by omega)
    have a1' : (ah_put (ah_new h (2 * ((n + 1) * w)) (ac_I (2 * ((n + 1) * w)) (fun _ => 0))) h.1 (ac_I (2 * ((n + 1) * w)) (va_cpy f (fun _ => 0) 0 0 N))).2.2 d = ac_O ci [.int (nI w), .ref e, .int (nI n)] := by rw [ah_ne (by omega), an_ne (by omega)]; exact a1
    generalize hh : ah_put (ah_new h (2 * ((n + 1) * w)) (ac_I (2 * ((n + 1) * w)) (fun _ => 0))) h.1 (ac_I (2 * ((n + 1) * w)) (va_cpy f (fun _ => 0) 0 0 N)) = h1 at hcp a1'
    have a1'' : (ah_put h1 d (ac_O ci [.int (nI w), .ref h.1, .int (nI n)])).2.2 d = ac_O ci [.int (nI w), .ref h.1, .int (nI n)] := ah_same _ _ _
    refine ⟨ah_put (ah_put h1 d (ac_O ci [.int (nI w), .ref h.1, .int (nI n)])) d (ac_O ci [.int (nI w), .ref h.1, .int (nI (n + 1))]), h.1, 2 * ((n + 1) * w), va_cpy f (fun _ => 0) 0 0 N, ?_, ⟨ah_same _ _ _, ?_, a3, by omega, by omega, a6, by omega, ?_, ?_, by omega⟩, fun q hq => ?_, Or.inr ⟨rfl, ?_, ?_⟩, fun a h1 h2 => ?_⟩
    · have c1 : ¬ nI ((n + 1) * w) ≤ nI N := nI_ge (by omega) (by omega)
      have c2 : (2 : Int32) * nI ((n + 1) * w) = nI (2 * ((n + 1) * w)) := nI_m (a := 2)
      simp only [r28, oR a1 a3, Option.bind_some, nI_1, nI_m, alen_I a2, if_neg c1, c2, hcp, Option.toList, List.nil_append, List.cons_append, oR a1' a3, oR a1'' a3]
    · rw [ah_ne (by omega), ah_ne (by omega), ← hh]; exact ah_same _ _ _
    · show d < h1.1; rw [← hh]; show d < h.1 + 1; omega
    · show h.1 < h1.1; rw [← hh]; show h.1 < h.1 + 1; omega
    · simp [va_cpy, show q < N by omega]
    · rw [← hh]; rfl
    · rw [← hh]; rfl
    · rw [ah_ne h1, ah_ne h1, ← hh, ah_ne h2, an_ne h2]
end RWs
