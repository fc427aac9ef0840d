/-! The class at birth. -/
theorem c_newB (P : Nat × Nat) {q s j : Nat} {g mem : Nat → am_C} {h : am_H} (hN : NO q s j g mem h) {t : Nat} (ht : t ≤ j) (hc : g t = ac_O 1 [.null, .int 0, .int 0]) : ∃ h', am_E P 0 0 [some (.ref (q + t))] [] h = some (none, h') ∧ NO q (s + 200) (j + 1) (va_up (va_up g (j + 1) (ac_I 200 (fun _ => 0))) t (ac_O 1 [.ref (q + (j + 1)), .int 0, .int 0])) mem h' := by
  have n2 : ¬ ((200 : Int32).toInt < 0 ∨ 1000000 < (200 : Int32).toInt) := by decide
  have e2 : (200 : Int32).toNatClampNeg = 200 := by decide
  have q1 := hN.1
  have A := hN.mk 200 (ac_I 200 (fun _ => 0))
  have c1 : (ah_new h 200 (ac_I 200 (fun _ => 0))).2.2 (q + t) = ac_O 1 [.null, .int 0, .int 0] := A.at t (by omega) (by rw [va_up_ne _ _ (by omega)]; exact hc)
  have B := A.pt t (by omega) (ac_O 1 [.ref (q + (j + 1)), .int 0, .int 0])
  refine ⟨_, ?_, B⟩
  simp only [r0, if_neg n2, e2, q1, o3 c1, o3 (ah_same (ah_new h 200 (ac_I 200 (fun _ => 0))) (q + t) _), ah_put2, Option.bind_some]
theorem c_born (P : Nat × Nat) {q s : Nat} {g mem : Nat → am_C} {h : am_H} (hN : NO q s 0 g mem h) (hg : g 0 = ac_O 8 [.null, .null, .null, .null, .int 0, .int 0, .int 0, .int 0, .int 0]) : ∃ h' g', am_E P 32 0 [some (.ref q)] [] h = some (none, h') ∧ NO q (s + 372) 6 g' mem h' ∧ g' 0 = ac_O 8 [.ref (q + 1), .ref (q + 2), .ref (q + 3), .ref (q + 5), .int (-6), .int 0, .int 0, .int 0, .int 0] ∧ g' 1 = ac_O 0 [.int 0, .ref P.1, .int 0] ∧ g' 2 = ac_O 0 [.int 0, .ref P.1, .int 0] ∧ g' 3 = ac_O 2 [.int (nI 5), .ref (q + 4), .int 0] ∧ g' 4 = ac_I 160 (fun _ => 0) ∧ g' 5 = ac_O 1 [.ref (q + 6), .int 0, .int 0] ∧ g' 6 = ac_I 200 (fun _ => 0) := by
  obtain ⟨H1, G1, s1, A1, a10, a11⟩ : ∃ H1 G1, am_E P 32 0 [some (.ref q)] [] h = am_E P 32 15 [some (.ref q)] [] H1 ∧ NO q (s + 3) 1 G1 mem H1 ∧ G1 0 = ac_O 8 [.ref (q + 1), .null, .null, .null, .int 0, .int 0, .int 0, .int 0, .int 0] ∧ G1 1 = ac_O 0 [.int 0, .ref P.1, .int 0] := by
    have A := hN.mk 3 (ac_O 0 [.int 0, .null, .int 0])
    have q1 : h.1 = q + 1 := hN.1
    have cl := A.at 1 (by decide) (c := ac_O 0 [.int 0, .null, .int 0]) (by simp [va_up])
    have B := A.pt 1 (by decide) (ac_O 0 [.int 0, .ref P.1, .int 0])
    refine ⟨_, _, ?_, B.p0 (ac_O 8 [.ref (q + 1), .null, .null, .null, .int 0, .int 0, .int 0, .int 0, .int 0]), va_up_self _ _ _, by simp [va_up]⟩
    have c := B.a0 (c := ac_O 8 [.null, .null, .null, .null, .int 0, .int 0, .int 0, .int 0, .int 0]) (by simp [va_up, hg])
    simp only [r32, q1, c_newL P cl, o9 c, Option.bind_some, Option.toList, List.nil_append]
  rw [s1]
  obtain ⟨H2, G2, s2, A2, a20, a21, a22⟩ : ∃ H2 G2, am_E P 32 15 [some (.ref q)] [] H1 = am_E P 32 26 [some (.ref q)] [] H2 ∧ NO q (s + 6) 2 G2 mem H2 ∧ G2 0 = ac_O 8 [.ref (q + 1), .ref (q + 2), .null, .null, .int 0, .int 0, .int 0, .int 0, .int 0] ∧ G2 1 = ac_O 0 [.int 0, .ref P.1, .int 0] ∧ G2 2 = ac_O 0 [.int 0, .ref P.1, .int 0] := by
    have A := A1.mk 3 (ac_O 0 [.int 0, .null, .int 0])
    have q1 : H1.1 = q + 2 := A1.1
    have cl := A.at 2 (by decide) (c := ac_O 0 [.int 0, .null, .int 0]) (by simp [va_up])
    have B := A.pt 2 (by decide) (ac_O 0 [.int 0, .ref P.1, .int 0])
    refine ⟨_, _, ?_, B.p0 (ac_O 8 [.ref (q + 1), .ref (q + 2), .null, .null, .int 0, .int 0, .int 0, .int 0, .int 0]), va_up_self _ _ _, by simp [va_up, a11], by simp [va_up]⟩
    have c := B.a0 (c := ac_O 8 [.ref (q + 1), .null, .null, .null, .int 0, .int 0, .int 0, .int 0, .int 0]) (by simp [va_up, a10])
    simp only [r32, q1, c_newL P cl, o9 c, Option.bind_some, Option.toList, List.nil_append]
  rw [s2]
  obtain ⟨H3, G3, s3, A3, a30, a31, a32, a33, a34⟩ : ∃ H3 G3, am_E P 32 26 [some (.ref q)] [] H2 = am_E P 32 37 [some (.ref q)] [] H3 ∧ NO q (s + 169) 4 G3 mem H3 ∧ G3 0 = ac_O 8 [.ref (q + 1), .ref (q + 2), .ref (q + 3), .null, .int 0, .int 0, .int 0, .int 0, .int 0] ∧ G3 1 = ac_O 0 [.int 0, .ref P.1, .int 0] ∧ G3 2 = ac_O 0 [.int 0, .ref P.1, .int 0] ∧ G3 3 = ac_O 2 [.int (nI 5), .ref (q + 4), .int 0] ∧ G3 4 = ac_I 160 (fun _ => 0) := by
    have A := A2.mk 3 (ac_O 2 [.int 0, .null, .int 0])
    have q1 : H2.1 = q + 3 := A2.1
    obtain ⟨h', e1, B⟩ := c_newLi P A (t := 3) (w := 5) (by decide) (va_up_self _ _ _) (Or.inl rfl) (Or.inr rfl)
    have e1 : am_E P 23 0 [some (.ref (q + 3)), some (.int 5)] [] (ah_new H2 3 (ac_O 2 [.int 0, .null, .int 0])) = some (none, h') := e1
    refine ⟨_, _, ?_, B.p0 (ac_O 8 [.ref (q + 1), .ref (q + 2), .ref (q + 3), .null, .int 0, .int 0, .int 0, .int 0, .int 0]), va_up_self _ _ _, by simp [va_up, a21], by simp [va_up, a22], by simp [va_up], by simp [va_up]⟩
    have c := B.a0 (c := ac_O 8 [.ref (q + 1), .ref (q + 2), .null, .null, .int 0, .int 0, .int 0, .int 0, .int 0]) (by simp [va_up, a20])
    simp only [r32, q1, r5, e1, o9 c, Option.bind_some, Option.toList, List.nil_append]
  rw [s3]
  have A := A3.mk 3 (ac_O 1 [.null, .int 0, .int 0])
  have q1 : H3.1 = q + 5 := A3.1
  obtain ⟨h', e1, B⟩ := c_newB P A (t := 5) (by decide) (va_up_self _ _ _)
  have c := B.a0 (c := ac_O 8 [.ref (q + 1), .ref (q + 2), .ref (q + 3), .null, .int 0, .int 0, .int 0, .int 0, .int 0]) (by simp [va_up, a30])
  refine ⟨_, _, ?_, B.p0 (ac_O 8 [.ref (q + 1), .ref (q + 2), .ref (q + 3), .ref (q + 5), .int (-6), .int 0, .int 0, .int 0, .int 0]), va_up_self _ _ _, by simp [va_up, a31], by simp [va_up, a32], by simp [va_up, a33], by simp [va_up, a34], by simp [va_up], by simp [va_up]⟩
  simp only [r32, q1, e1, o9 c, o9 (ah_same h' q _), ah_put2, Option.bind_some, Option.toList, List.nil_append, true_or, if_true]
/-- addresses at birth -/
def a0 (q : Nat) : Nat → Nat → Nat → Nat := fun k _ _ => q + (match k with | 0 => 0 | 1 => 1 | 3 => 2 | 5 => 3 | 6 => 4 | 7 => 5 | _ => 6)
theorem lv_0 {k i j : Nat} (h : lv S0 k i j) : (k = 0 ∨ k = 1 ∨ k = 3 ∨ k = 5 ∨ k = 6 ∨ k = 7 ∨ k = 8) ∧ i = 0 ∧ j = 0 := by
  have z : ∀ {x : Nat}, ¬ x < S0.1 0 0 0 := fun h => absurd h (Nat.not_lt_zero _)
  have z3 : ∀ {x : Nat}, ¬ x < S0.1 3 0 0 := fun h => absurd h (Nat.not_lt_zero _)
  rcases k23 h with rfl | rfl | rfl | rfl | rfl | rfl | rfl | rfl | rfl | rfl | rfl | rfl | rfl | rfl | rfl | rfl | rfl | rfl | rfl | rfl | rfl | rfl | rfl
  all_goals first
    | exact ⟨by simp, h.1, h.2⟩
    | exact absurd h.2 z
    | exact absurd h.2 z3
    | exact absurd h.1 z
    | exact absurd h.1.1 z
    | exact absurd h.1 z3
theorem CZ_0 (P : Nat × Nat) (fx : Nat → Prop) {q : Nat} {g : Nat → am_C} {h : am_H} (hc : ∀ i, i ≤ 6 → h.2.2 (q + i) = g i) (hq : q + 6 < h.1) (hf : ∀ i, i ≤ 6 → ¬ fx (q + i)) (hfx : ∀ a, fx a → a < h.1) (hP : fx P.1) (hE : h.2.2 P.1 = ac_E)
    (g0 : g 0 = ac_O 8 [.ref (q + 1), .ref (q + 2), .ref (q + 3), .ref (q + 5), .int (-6), .int 0, .int 0, .int 0, .int 0]) (g1 : g 1 = ac_O 0 [.int 0, .ref P.1, .int 0]) (g2 : g 2 = ac_O 0 [.int 0, .ref P.1, .int 0]) (g3 : g 3 = ac_O 2 [.int (nI 5), .ref (q + 4), .int 0]) (g4 : g 4 = ac_I 160 (fun _ => 0)) (g5 : g 5 = ac_O 1 [.ref (q + 6), .int 0, .int 0]) (g6 : g 6 = ac_I 200 (fun _ => 0)) : CZ P fx h.2.2 (h.1, h.2.1) q h S0 := by
  refine ⟨a0 q, rfl, a0 q, ?_⟩
  rw [jn_self]
  refine ⟨fun k i j hl => ?_, fun k i j k' i' j' hl hl' he => ?_, fun a ha => ⟨hfx a ha, rfl⟩, hP, hE, Nat.le_add_right _ _, Nat.le_add_right _ _⟩
  · obtain ⟨hk, rfl, rfl⟩ := lv_0 hl
    rcases hk with rfl | rfl | rfl | rfl | rfl | rfl | rfl
    · exact ⟨by show q + 0 < h.1; omega, hf 0 (by decide), (hc 0 (by decide)).trans g0⟩
    · exact ⟨by show q + 1 < h.1; omega, hf 1 (by decide), 0, (hc 1 (by decide)).trans g1⟩
    · exact ⟨by show q + 2 < h.1; omega, hf 2 (by decide), 0, (hc 2 (by decide)).trans g2⟩
    · exact ⟨by show q + 3 < h.1; omega, hf 3 (by decide), (hc 3 (by decide)).trans g3⟩
    · exact ⟨by show q + 4 < h.1; omega, hf 4 (by decide), 160, _, (hc 4 (by decide)).trans g4, by decide, by decide, fun i q hi => absurd hi (Nat.not_lt_zero _)⟩
    · exact ⟨by show q + 5 < h.1; omega, hf 5 (by decide), (hc 5 (by decide)).trans g5⟩
    · exact ⟨by show q + 6 < h.1; omega, hf 6 (by decide), _, (hc 6 (by decide)).trans g6, fun i hi => absurd hi (Nat.not_lt_zero _)⟩
  · obtain ⟨hk, rfl, rfl⟩ := lv_0 hl
    obtain ⟨hk', rfl, rfl⟩ := lv_0 hl'
    refine ⟨?_, rfl, rfl⟩
    unfold a0 at he
    rcases hk with rfl | rfl | rfl | rfl | rfl | rfl | rfl <;> rcases hk' with rfl | rfl | rfl | rfl | rfl | rfl | rfl <;> first | rfl | (exfalso; simp at he)
