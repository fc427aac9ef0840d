/-! Numbers and cells: small rows. -/
theorem am_ix_nI {k n : Nat} (h : k < n) (hn : n < 2 ^ 31) : am_ix (nI k) n = some k := by
  have e : (nI k).toInt = (k : Int) := nI_toInt (by omega)
  have c : (nI k).toNatClampNeg = k := nI_clamp (by omega)
  unfold am_ix
  rw [e, c, if_pos (by omega)]
theorem ah_same (h : am_H) (a : Nat) (c : am_C) : (ah_put h a c).2.2 a = c := by simp [ah_put, va_up]
theorem ah_ne {h : am_H} {a b : Nat} {c : am_C} (hn : b ≠ a) : (ah_put h a c).2.2 b = h.2.2 b := by simp [ah_put, va_up, hn]
theorem ah_p1 (h : am_H) (a : Nat) (c : am_C) : (ah_put h a c).1 = h.1 := rfl
theorem ah_p2 (h : am_H) (a : Nat) (c : am_C) : (ah_put h a c).2.1 = h.2.1 := rfl
theorem an_same (h : am_H) (k : Nat) (c : am_C) : (ah_new h k c).2.2 h.1 = c := by simp [ah_new, va_up]
theorem an_ne {h : am_H} {k b : Nat} {c : am_C} (hn : b ≠ h.1) : (ah_new h k c).2.2 b = h.2.2 b := by simp [ah_new, va_up, hn]
theorem an_p1 (h : am_H) (k : Nat) (c : am_C) : (ah_new h k c).1 = h.1 + 1 := rfl
theorem an_p2 (h : am_H) (k : Nat) (c : am_C) : (ah_new h k c).2.1 = h.2.1 + k := rfl
theorem nm_m6 : ((-6 : Int32)).toInt = -6 := rfl
/-- int comparisons by their whole numbers -/
theorem i_le {x y : Int32} : x ≤ y ↔ x.toInt ≤ y.toInt := Int32.le_iff_toInt_le
theorem i_lt {x y : Int32} : x < y ↔ x.toInt < y.toInt := Int32.lt_iff_toInt_lt
theorem i_eq {x y : Int32} : x = y ↔ x.toInt = y.toInt := ⟨fun h => by rw [h], fun h => Int32.toInt.inj h⟩
theorem nI_m {a b : Nat} : nI a * nI b = nI (a * b) := pk_mul a b
theorem nI_inj {a b : Nat} (ha : a < 2 ^ 31) (hb : b < 2 ^ 31) : nI a = nI b ↔ a = b := nI_eq ha hb
theorem iald_I {h : am_H} {a n k : Nat} {f : Nat → Int32} (hc : h.2.2 a = ac_I n f) (hk : k < n) (hn : n < 2 ^ 31) : am_iald h a (nI k) = some (f k) := by
  unfold am_iald
  rw [hc]
  simp only [am_ix_nI hk hn, Option.map_some]
theorem iast_I {h : am_H} {a n k : Nat} {f : Nat → Int32} {x : Int32} (hc : h.2.2 a = ac_I n f) (hk : k < n) (hn : n < 2 ^ 31) : am_iast h a (nI k) x = some (ah_put h a (ac_I n (upd f k x))) := by
  unfold am_iast
  rw [hc]
  simp only [am_ix_nI hk hn, Option.map_some]
