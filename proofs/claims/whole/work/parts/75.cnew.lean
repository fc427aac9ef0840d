/-! The class: new objects. -/
/-- what was made from q on: cells g 0 .. g j; below q nothing changed -/
def NO (q s j : Nat) (g : Nat → am_C) (mem : Nat → am_C) (H : am_H) : Prop := H.1 = q + (j + 1) ∧ H.2.1 = s ∧ (∀ i, i ≤ j → H.2.2 (q + i) = g i) ∧ (∀ a, a < q → H.2.2 a = mem a)
section NOs
variable {q s j : Nat} {g mem : Nat → am_C} {H : am_H}
theorem NO.mk (hN : NO q s j g mem H) (k : Nat) (c : am_C) : NO q (s + k) (j + 1) (va_up g (j + 1) c) mem (ah_new H k c) := by
  obtain ⟨a1, a2, a3, a4⟩ := hN
  refine ⟨by show H.1 + 1 = _; omega, by show H.2.1 + k = _; omega, fun i hi => ?_, fun a ha => ?_⟩
  · by_cases hij : i = j + 1
    · subst hij
      rw [va_up_self, ← a1, an_same]
    · rw [an_ne (by omega), va_up_ne _ _ hij]
      exact a3 i (by omega)
  · rw [an_ne (by omega)]
    exact a4 a ha
theorem NO.pt (hN : NO q s j g mem H) (i : Nat) (hi : i ≤ j) (c : am_C) : NO q s j (va_up g i c) mem (ah_put H (q + i) c) := by
  obtain ⟨a1, a2, a3, a4⟩ := hN
  refine ⟨a1, a2, fun i' hi' => ?_, fun a ha => ?_⟩
  · by_cases hii : i' = i
    · subst hii
      rw [va_up_self, ah_same]
    · rw [ah_ne (by omega), va_up_ne _ _ hii]
      exact a3 i' hi'
  · rw [ah_ne (by omega)]
    exact a4 a ha
theorem NO.at (hN : NO q s j g mem H) (i : Nat) (hi : i ≤ j) {c : am_C} (hc : g i = c) : H.2.2 (q + i) = c := (hN.2.2.1 i hi).trans hc
end NOs
theorem c_newL (P : Nat × Nat) {h : am_H} {l : Nat} {x y z : Value} (hc : h.2.2 l = ac_O 0 [x, y, z]) : am_E P 115 0 [some (.ref l)] [] h = some (none, ah_put h l (ac_O 0 [.int 0, .ref P.1, z])) := by
  simp only [r115, r114, r113, Option.bind_some, Option.toList, List.nil_append, o3 hc, o3 (ah_same h l _), ah_put2]
theorem c_newR (P : Nat × Nat) {h : am_H} {d ci w : Nat} {x y z : Value} (hc : h.2.2 d = ac_O ci [x, y, z]) (hi : ci = 2 ∨ ci = 3) (hw : w = 4 ∨ w = 5) (hd : d < h.1) : am_E P 23 0 [some (.ref d), some (.int (nI w))] [] h = some (none, ah_put (ah_new (ah_put h d (ac_O ci [.int (nI w), y, .int 0])) (w * 32) (ac_I (w * 32) (fun _ => 0))) d (ac_O ci [.int (nI w), .ref h.1, .int 0])) := by
  have c1 : (if (1 : Int32) < nI w then nI w else 1) = nI w := by rcases hw with rfl | rfl <;> decide
  have c2 : nI w * 32 = nI (w * 32) := nI_m (b := 32)
  have c3 := nI_room (n := w * 32) (by omega)
  have c4 : (nI (w * 32)).toNatClampNeg = w * 32 := nI_clamp (by omega)
  have c5 : ∀ h' : am_H, h'.1 = h.1 → h'.2.2 d = ac_O ci [.int (nI w), y, .int 0] → (ah_new h' (w * 32) (ac_I (w * 32) (fun _ => 0))).2.2 d = ac_O ci [.int (nI w), y, .int 0] := fun h' e1 e2 => by rw [an_ne (by omega)]; exact e2
  have c6 := c5 (ah_put h d (ac_O ci [.int (nI w), y, .int 0])) rfl (ah_same _ _ _)
  simp only [r23, oR hc hi, Option.bind_some, c_max, Option.toList, List.nil_append, List.cons_append, c1, oR (ah_same h d _) hi, ah_put2, c2, if_neg c3, c4, oR c6 hi, ah_p1]
theorem c_fill (P : Nat × Nat) {a : Nat} (v : Int32) : ∀ (k i : Nat) (h : am_H) (g : Nat → Int32), i + k = 10 → h.2.2 a = ac_I 10 g → (∀ j, j < i → g j = v) → ∃ h' g', am_E P 123 5 [some (.ref a), some (.int v), some (.int (nI i)), some (.int (nI 10))] [] h = some (none, h') ∧ h'.2.2 a = ac_I 10 g' ∧ (∀ j, j < 10 → g' j = v) ∧ h'.1 = h.1 ∧ h'.2.1 = h.2.1 ∧ (∀ b, b ≠ a → h'.2.2 b = h.2.2 b) := by
  intro k
  induction k with
  | zero =>
    intro i h g hi hc hg
    obtain rfl : i = 10 := by omega
    refine ⟨h, g, ?_, hc, hg, rfl, rfl, fun _ _ => rfl⟩
    have c1 : nI 10 ≤ nI 10 := by decide
    rw [hd123_5]
    simp only [r123, if_pos c1]
  | succ k ih =>
    intro i h g hi hc hg
    have c1 : ¬ nI 10 ≤ nI i := nI_ge (by omega) (by decide)
    obtain ⟨h', g', e1, e2, e3, e4, e5, e6⟩ := ih (i + 1) (ah_put h a (ac_I 10 (upd g i v))) (upd g i v) (by omega) (ah_same _ _ _) (fun j hj => by
      unfold upd
      split
      · rfl
      · exact hg j (by omega))
    refine ⟨h', g', ?_, e2, e3, e4, e5, fun b hb => by rw [e6 b hb, ah_ne hb]⟩
    refine Eq.trans ?_ e1
    conv => lhs; rw [hd123_5]
    simp only [r123, if_neg c1, iast_I hc (show i < 10 by omega) (by decide), Option.bind_some, nI_1]
theorem c_newT (P : Nat × Nat) {q s j : Nat} {g mem : Nat → am_C} {h : am_H} (hN : NO q s j g mem h) {t : Nat} (ht : t ≤ j) (hc : g t = ac_O 7 [.null, .null, .null, .int 0]) : ∃ h' g', am_E P 29 0 [some (.ref (q + t))] [] h = some (none, h') ∧ NO q (s + 30) (j + 3) g' mem h' ∧ g' t = ac_O 7 [.ref (q + (j + 1)), .ref (q + (j + 2)), .ref (q + (j + 3)), .int 0] ∧ (∀ i, i ≤ j → i ≠ t → g' i = g i) ∧ g' (j + 1) = ac_I 10 (fun _ => 0) ∧ (∃ f, g' (j + 2) = ac_I 10 f ∧ ∀ k, k < 10 → f k = -6) ∧ g' (j + 3) = ac_I 10 (fun _ => 0) := by
  have n10 : ¬ ((10 : Int32).toInt < 0 ∨ 1000000 < (10 : Int32).toInt) := by decide
  have e10 : (10 : Int32).toNatClampNeg = 10 := by decide
  have q1 := hN.1
  have A1 := hN.mk 10 (ac_I 10 (fun _ => 0))
  have c1 : (ah_new h 10 (ac_I 10 (fun _ => 0))).2.2 (q + t) = ac_O 7 [.null, .null, .null, .int 0] := A1.at t (by omega) (by rw [va_up_ne _ _ (by omega)]; exact hc)
  have A2 := A1.pt t (by omega) (ac_O 7 [.ref (q + (j + 1)), .null, .null, .int 0])
  have A3 := A2.mk 10 (ac_I 10 (fun _ => 0))
  have q2 : (ah_put (ah_new h 10 (ac_I 10 (fun _ => 0))) (q + t) (ac_O 7 [.ref (q + (j + 1)), .null, .null, .int 0])).1 = q + (j + 2) := A2.1
  have c2 : (ah_new (ah_put (ah_new h 10 (ac_I 10 (fun _ => 0))) (q + t) (ac_O 7 [.ref (q + (j + 1)), .null, .null, .int 0])) 10 (ac_I 10 (fun _ => 0))).2.2 (q + t) = ac_O 7 [.ref (q + (j + 1)), .null, .null, .int 0] := A3.at t (by omega) (by rw [va_up_ne _ _ (by omega), va_up_self])
  have A4 := A3.pt t (by omega) (ac_O 7 [.ref (q + (j + 1)), .ref (q + (j + 2)), .null, .int 0])
  have s1 : am_E P 29 0 [some (.ref (q + t))] [] h = am_E P 29 20 [some (.ref (q + t))] [] (ah_put (ah_new (ah_put (ah_new h 10 (ac_I 10 (fun _ => 0))) (q + t) (ac_O 7 [.ref (q + (j + 1)), .null, .null, .int 0])) 10 (ac_I 10 (fun _ => 0))) (q + t) (ac_O 7 [.ref (q + (j + 1)), .ref (q + (j + 2)), .null, .int 0])) := by
    simp only [r29, if_neg n10, e10, q1, o4 c1, q2, o4 c2, Option.bind_some]
  rw [s1]
  have G4 : va_up (va_up (va_up (va_up g (j + 1) (ac_I 10 (fun _ => 0))) t (ac_O 7 [.ref (q + (j + 1)), .null, .null, .int 0])) (j + 1 + 1) (ac_I 10 (fun _ => 0))) t (ac_O 7 [.ref (q + (j + 1)), .ref (q + (j + 2)), .null, .int 0]) t = ac_O 7 [.ref (q + (j + 1)), .ref (q + (j + 2)), .null, .int 0] := va_up_self _ _ _
  have F4 : ∀ i, i ≠ t → va_up (va_up (va_up (va_up g (j + 1) (ac_I 10 (fun _ => 0))) t (ac_O 7 [.ref (q + (j + 1)), .null, .null, .int 0])) (j + 1 + 1) (ac_I 10 (fun _ => 0))) t (ac_O 7 [.ref (q + (j + 1)), .ref (q + (j + 2)), .null, .int 0]) i = if i = j + 1 + 1 then ac_I 10 (fun _ => 0) else if i = j + 1 then ac_I 10 (fun _ => 0) else g i := fun i hi => by
    rw [va_up_ne _ _ hi]
    unfold va_up
    simp only [if_neg hi]
  generalize va_up (va_up (va_up (va_up g (j + 1) (ac_I 10 (fun _ => 0))) t (ac_O 7 [.ref (q + (j + 1)), .null, .null, .int 0])) (j + 1 + 1) (ac_I 10 (fun _ => 0))) t (ac_O 7 [.ref (q + (j + 1)), .ref (q + (j + 2)), .null, .int 0]) = G at *
  generalize ah_put (ah_new (ah_put (ah_new h 10 (ac_I 10 (fun _ => 0))) (q + t) (ac_O 7 [.ref (q + (j + 1)), .null, .null, .int 0])) 10 (ac_I 10 (fun _ => 0))) (q + t) (ac_O 7 [.ref (q + (j + 1)), .ref (q + (j + 2)), .null, .int 0]) = H at *
  clear s1 c2 q2 A3 A2 c1 A1
  have A5 := A4.mk 10 (ac_I 10 (fun _ => 0))
  have c5 : (ah_new H 10 (ac_I 10 (fun _ => 0))).2.2 (q + t) = ac_O 7 [.ref (q + (j + 1)), .ref (q + (j + 2)), .null, .int 0] := A5.at t (by omega) (by rw [va_up_ne _ _ (by omega)]; exact G4)
  have A6 := A5.pt t (by omega) (ac_O 7 [.ref (q + (j + 1)), .ref (q + (j + 2)), .ref (q + (j + 3)), .int 0])
  have q4 : H.1 = q + (j + 3) := A4.1
  have c6 : (ah_put (ah_new H 10 (ac_I 10 (fun _ => 0))) (q + t) (ac_O 7 [.ref (q + (j + 1)), .ref (q + (j + 2)), .ref (q + (j + 3)), .int 0])).2.2 (q + (j + 2)) = ac_I 10 (fun _ => 0) := A6.at (j + 2) (by omega) (by
    rw [va_up_ne _ _ (by omega), va_up_ne _ _ (by omega), F4 _ (by omega), if_pos rfl])
  obtain ⟨h', g', e1, e2, e3, e4, e5, e6⟩ := c_fill P (-6) 10 0 (ah_put (ah_new H 10 (ac_I 10 (fun _ => 0))) (q + t) (ac_O 7 [.ref (q + (j + 1)), .ref (q + (j + 2)), .ref (q + (j + 3)), .int 0])) _ rfl c6 (fun j hj => absurd hj (Nat.not_lt_zero j))
  have fl : am_E P 123 0 [some (.ref (q + (j + 2))), some (.int (-6)), none, none] [] (ah_put (ah_new H 10 (ac_I 10 (fun _ => 0))) (q + t) (ac_O 7 [.ref (q + (j + 1)), .ref (q + (j + 2)), .ref (q + (j + 3)), .int 0])) = some (none, h') := by
    refine Eq.trans ?_ e1
    simp only [r123, alen_I c6, Option.bind_some]
    rfl
  refine ⟨h', va_up (va_up (va_up G (j + 1 + 1 + 1) (ac_I 10 (fun _ => 0))) t (ac_O 7 [.ref (q + (j + 1)), .ref (q + (j + 2)), .ref (q + (j + 3)), .int 0])) (j + 2) (ac_I 10 g'), ?_, ⟨?_, ?_, fun i hi => ?_, fun a ha => ?_⟩, ?_, fun i hi hit => ?_, ?_, ⟨g', va_up_self _ _ _, e3⟩, ?_⟩
  · simp only [r29, if_neg n10, e10, q4, o4 c5, o4 (ah_same (ah_new H 10 (ac_I 10 (fun _ => 0))) (q + t) _), ah_put2, Option.bind_some, fl, Option.toList, List.nil_append]
  · rw [e4, A6.1]
  · rw [e5, A6.2.1]
  · by_cases hi2 : i = j + 2
    · subst hi2
      rw [va_up_self]
      exact e2
    · rw [e6 _ (by omega), va_up_ne _ _ hi2]
      exact A6.2.2.1 i hi
  · rw [e6 _ (by omega)]
    exact A6.2.2.2 a ha
  · rw [va_up_ne _ _ (by omega), va_up_self]
  · rw [va_up_ne _ _ (by omega), va_up_ne _ _ hit, va_up_ne _ _ (by omega), F4 _ hit, if_neg (by omega), if_neg (by omega)]
  · rw [va_up_ne _ _ (by omega), va_up_ne _ _ (by omega), va_up_ne _ _ (by omega), F4 _ (by omega), if_neg (by omega), if_pos rfl]
  · rw [va_up_ne _ _ (by omega), va_up_ne _ _ (by omega), va_up_self]
