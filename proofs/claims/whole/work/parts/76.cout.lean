/-! The class: a new output. -/
section NO2
variable {q s j : Nat} {g mem : Nat → am_C} {H : am_H}
theorem NO.p0 (hN : NO q s j g mem H) (c : am_C) : NO q s j (va_up g 0 c) mem (ah_put H q c) := hN.pt 0 (Nat.zero_le _) c
theorem NO.a0 (hN : NO q s j g mem H) {c : am_C} (hc : g 0 = c) : H.2.2 q = c := hN.at 0 (Nat.zero_le _) hc
end NO2
theorem c_newLi (P : Nat × Nat) {q s j : Nat} {g mem : Nat → am_C} {h : am_H} (hN : NO q s j g mem h) {t ci w : Nat} {x y z : Value} (ht : t ≤ j) (hc : g t = ac_O ci [x, y, z]) (hi : ci = 2 ∨ ci = 3) (hw : w = 4 ∨ w = 5) : ∃ h', am_E P 23 0 [some (.ref (q + t)), some (.int (nI w))] [] h = some (none, h') ∧ NO q (s + w * 32) (j + 1) (va_up (va_up g (j + 1) (ac_I (w * 32) (fun _ => 0))) t (ac_O ci [.int (nI w), .ref (q + (j + 1)), .int 0])) mem h' := by
  have h1 := c_newR P (hN.at t ht hc) hi hw (by rw [hN.1]; omega)
  have A1 := (hN.pt t ht (ac_O ci [.int (nI w), y, .int 0])).mk (w * 32) (ac_I (w * 32) (fun _ => 0))
  have A2 := A1.pt t (by omega) (ac_O ci [.int (nI w), .ref (q + (j + 1)), .int 0])
  rw [hN.1] at h1
  refine ⟨_, h1, ?_⟩
  have e : va_up (va_up (va_up g t (ac_O ci [.int (nI w), y, .int 0])) (j + 1) (ac_I (w * 32) (fun _ => 0))) t (ac_O ci [.int (nI w), .ref (q + (j + 1)), .int 0]) = va_up (va_up g (j + 1) (ac_I (w * 32) (fun _ => 0))) t (ac_O ci [.int (nI w), .ref (q + (j + 1)), .int 0]) := by
    funext i
    unfold va_up
    by_cases h1 : i = t
    · simp [h1]
    · simp [h1]
  rw [← e]
  exact A2
theorem c_newOut (P : Nat × Nat) {q s : Nat} {g mem : Nat → am_C} {h : am_H} (hN : NO q s 0 g mem h) (hg : g 0 = ac_O 4 [.int 0, .int 0, .null, .null, .int 0, .null, .int 0, .int 0, .null, .null]) (n x : Int32) : ∃ h' g', am_E P 10 0 [some (.ref q), some (.int n), some (.int x)] [] h = some (none, h') ∧ NO q (s + 208) 9 g' mem h' ∧ g' 0 = ac_O 4 [.int n, .int x, .ref (q + 1), .ref (q + 2), .int 0, .ref (q + 3), .int 0, .int 0, .ref (q + 4), .ref (q + 6)] ∧ g' 1 = ac_I 20 (fun _ => 0) ∧ g' 2 = ac_I 20 (fun _ => 0) ∧ g' 3 = ac_O 0 [.int 0, .ref P.1, .int 0] ∧ g' 4 = ac_O 3 [.int (nI 4), .ref (q + 5), .int 0] ∧ g' 5 = ac_I 128 (fun _ => 0) ∧ g' 6 = ac_O 7 [.ref (q + 7), .ref (q + 8), .ref (q + 9), .int 0] ∧ g' 7 = ac_I 10 (fun _ => 0) ∧ (∃ f, g' 8 = ac_I 10 f ∧ ∀ k, k < 10 → f k = -6) ∧ g' 9 = ac_I 10 (fun _ => 0) := by
  have n20 : ¬ ((20 : Int32).toInt < 0 ∨ 1000000 < (20 : Int32).toInt) := by decide
  have e20 : (20 : Int32).toNatClampNeg = 20 := by decide
  -- open keys
  obtain ⟨H1, G1, s1, A1, a10, a11⟩ : ∃ H1 G1, am_E P 10 0 [some (.ref q), some (.int n), some (.int x)] [] h = am_E P 10 12 [some (.ref q), some (.int n), some (.int x)] [] H1 ∧ NO q (s + 20) 1 G1 mem H1 ∧ G1 0 = ac_O 4 [.int 0, .int 0, .ref (q + 1), .null, .int 0, .null, .int 0, .int 0, .null, .null] ∧ G1 1 = ac_I 20 (fun _ => 0) := by
    have A := hN.mk 20 (ac_I 20 (fun _ => 0))
    have q1 : h.1 = q + 1 := hN.1
    refine ⟨_, _, ?_, A.p0 (ac_O 4 [.int 0, .int 0, .ref (q + 1), .null, .int 0, .null, .int 0, .int 0, .null, .null]), va_up_self _ _ _, by simp [va_up]⟩
    have c := A.a0 (c := ac_O 4 [.int 0, .int 0, .null, .null, .int 0, .null, .int 0, .int 0, .null, .null]) (by simp [va_up, hg])
    simp only [r10, if_neg n20, e20, q1, o10 c, Option.bind_some]
  rw [s1]
  -- open values
  obtain ⟨H2, G2, s2, A2, a20, a21, a22⟩ : ∃ H2 G2, am_E P 10 12 [some (.ref q), some (.int n), some (.int x)] [] H1 = am_E P 10 25 [some (.ref q), some (.int n), some (.int x)] [] H2 ∧ NO q (s + 40) 2 G2 mem H2 ∧ G2 0 = ac_O 4 [.int 0, .int 0, .ref (q + 1), .ref (q + 2), .int 0, .null, .int 0, .int 0, .null, .null] ∧ G2 1 = ac_I 20 (fun _ => 0) ∧ G2 2 = ac_I 20 (fun _ => 0) := by
    have A := A1.mk 20 (ac_I 20 (fun _ => 0))
    have q1 : H1.1 = q + 2 := A1.1
    refine ⟨_, _, ?_, A.p0 (ac_O 4 [.int 0, .int 0, .ref (q + 1), .ref (q + 2), .int 0, .null, .int 0, .int 0, .null, .null]), va_up_self _ _ _, by simp [va_up, a11], by simp [va_up]⟩
    have c := A.a0 (c := ac_O 4 [.int 0, .int 0, .ref (q + 1), .null, .int 0, .null, .int 0, .int 0, .null, .null]) (by simp [va_up, a10])
    simp only [r10, if_neg n20, e20, q1, o10 c, o10 (ah_same (ah_new H1 20 (ac_I 20 (fun _ => 0))) q _), ah_put2, Option.bind_some]
  rw [s2]
  -- list of parts
  obtain ⟨H3, G3, s3, A3, a30, a31, a32, a33⟩ : ∃ H3 G3, am_E P 10 25 [some (.ref q), some (.int n), some (.int x)] [] H2 = am_E P 10 46 [some (.ref q), some (.int n), some (.int x)] [] H3 ∧ NO q (s + 43) 3 G3 mem H3 ∧ G3 0 = ac_O 4 [.int 0, .int 0, .ref (q + 1), .ref (q + 2), .int 0, .ref (q + 3), .int 0, .int 0, .null, .null] ∧ G3 1 = ac_I 20 (fun _ => 0) ∧ G3 2 = ac_I 20 (fun _ => 0) ∧ G3 3 = ac_O 0 [.int 0, .ref P.1, .int 0] := by
    have A := A2.mk 3 (ac_O 0 [.int 0, .null, .int 0])
    have q1 : H2.1 = q + 3 := A2.1
    have cl := A.at 3 (by decide) (c := ac_O 0 [.int 0, .null, .int 0]) (by simp [va_up])
    have B := A.pt 3 (by decide) (ac_O 0 [.int 0, .ref P.1, .int 0])
    refine ⟨_, _, ?_, B.p0 (ac_O 4 [.int 0, .int 0, .ref (q + 1), .ref (q + 2), .int 0, .ref (q + 3), .int 0, .int 0, .null, .null]), va_up_self _ _ _, by simp [va_up, a21], by simp [va_up, a22], by simp [va_up]⟩
    have c := B.a0 (c := ac_O 4 [.int 0, .int 0, .ref (q + 1), .ref (q + 2), .int 0, .null, .int 0, .int 0, .null, .null]) (by simp [va_up, a20])
    simp only [r10, q1, c_newL P cl, o10 c, o10 (ah_same (ah_put (ah_new H2 3 (ac_O 0 [.int 0, .null, .int 0])) (q + 3) (ac_O 0 [.int 0, .ref P.1, .int 0])) q _), ah_put2, Option.bind_some, Option.toList, List.nil_append]
  rw [s3]
  -- lines
  obtain ⟨H4, G4, s4, A4, a40, a41, a42, a43, a44, a45⟩ : ∃ H4 G4, am_E P 10 46 [some (.ref q), some (.int n), some (.int x)] [] H3 = am_E P 10 57 [some (.ref q), some (.int n), some (.int x)] [] H4 ∧ NO q (s + 174) 5 G4 mem H4 ∧ G4 0 = ac_O 4 [.int 0, .int 0, .ref (q + 1), .ref (q + 2), .int 0, .ref (q + 3), .int 0, .int 0, .ref (q + 4), .null] ∧ G4 1 = ac_I 20 (fun _ => 0) ∧ G4 2 = ac_I 20 (fun _ => 0) ∧ G4 3 = ac_O 0 [.int 0, .ref P.1, .int 0] ∧ G4 4 = ac_O 3 [.int (nI 4), .ref (q + 5), .int 0] ∧ G4 5 = ac_I 128 (fun _ => 0) := by
    have A := A3.mk 3 (ac_O 3 [.int 0, .null, .int 0])
    have q1 : H3.1 = q + 4 := A3.1
    obtain ⟨h', e1, B⟩ := c_newLi P A (t := 4) (w := 4) (by decide) (va_up_self _ _ _) (Or.inr rfl) (Or.inl rfl)
    have e1 : am_E P 23 0 [some (.ref (q + 4)), some (.int 4)] [] (ah_new H3 3 (ac_O 3 [.int 0, .null, .int 0])) = some (none, h') := e1
    refine ⟨_, _, ?_, B.p0 (ac_O 4 [.int 0, .int 0, .ref (q + 1), .ref (q + 2), .int 0, .ref (q + 3), .int 0, .int 0, .ref (q + 4), .null]), va_up_self _ _ _, by simp [va_up, a31], by simp [va_up, a32], by simp [va_up, a33], by simp [va_up], by simp [va_up]⟩
    have c := B.a0 (c := ac_O 4 [.int 0, .int 0, .ref (q + 1), .ref (q + 2), .int 0, .ref (q + 3), .int 0, .int 0, .null, .null]) (by simp [va_up, a30])
    simp only [r10, q1, r7, e1, o10 c, Option.bind_some, Option.toList, List.nil_append]
  rw [s4]
  -- table
  have A := A4.mk 4 (ac_O 7 [.null, .null, .null, .int 0])
  have q1 : H4.1 = q + 6 := A4.1
  obtain ⟨h', g', e1, B, b6, bo, b7, b8, b9⟩ := c_newT P A (t := 6) (by decide) (va_up_self _ _ _)
  have c := B.a0 (c := ac_O 4 [.int 0, .int 0, .ref (q + 1), .ref (q + 2), .int 0, .ref (q + 3), .int 0, .int 0, .ref (q + 4), .null]) (by rw [bo 0 (by decide) (by decide)]; simp [va_up, a40])
  refine ⟨_, _, ?_, B.p0 (ac_O 4 [.int n, .int x, .ref (q + 1), .ref (q + 2), .int 0, .ref (q + 3), .int 0, .int 0, .ref (q + 4), .ref (q + 6)]), va_up_self _ _ _, ?_, ?_, ?_, ?_, ?_, ?_, ?_, ?_, ?_⟩
  · simp only [r10, q1, e1, o10 c, o10 (ah_same h' q _), ah_put2, Option.bind_some, Option.toList, List.nil_append]
  · rw [va_up_ne _ _ (by decide), bo 1 (by decide) (by decide)]; simp [va_up, a41]
  · rw [va_up_ne _ _ (by decide), bo 2 (by decide) (by decide)]; simp [va_up, a42]
  · rw [va_up_ne _ _ (by decide), bo 3 (by decide) (by decide)]; simp [va_up, a43]
  · rw [va_up_ne _ _ (by decide), bo 4 (by decide) (by decide)]; simp [va_up, a44]
  · rw [va_up_ne _ _ (by decide), bo 5 (by decide) (by decide)]; simp [va_up, a45]
  · rw [va_up_ne _ _ (by decide)]; exact b6
  · rw [va_up_ne _ _ (by decide)]; exact b7
  · obtain ⟨f, f1, f2⟩ := b8
    exact ⟨f, by rw [va_up_ne _ _ (by decide)]; exact f1, f2⟩
  · rw [va_up_ne _ _ (by decide)]; exact b9
