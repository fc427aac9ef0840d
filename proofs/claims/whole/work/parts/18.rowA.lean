/-! Printed by a program of ours (wip/whole/gen/emit_rows.py): what am_E does at each instruction. -/
/-- TwoStepOutputs$Barriers.<init>()V -/
theorem r0 : (∀ (P : Nat × Nat) (a0 : Nat) (s : List Value) (h : am_H), am_E P 0 0 [some (.ref a0)] s h = am_E P 0 1 [some (.ref a0)] (.ref a0 :: s) h) ∧
  (∀ (P : Nat × Nat) (s : List Value) (h : am_H), am_E P 0 0 [some .null] s h = am_E P 0 1 [some .null] (.null :: s) h) ∧
  (∀ (P : Nat × Nat) (l0 : Option Value) (a0 : Nat) (h : am_H), am_E P 0 1 [l0] [.ref a0] h = am_E P 0 4 [l0] [] h) ∧
  (∀ (P : Nat × Nat) (a0 : Nat) (s : List Value) (h : am_H), am_E P 0 4 [some (.ref a0)] s h = am_E P 0 5 [some (.ref a0)] (.ref a0 :: s) h) ∧
  (∀ (P : Nat × Nat) (s : List Value) (h : am_H), am_E P 0 4 [some .null] s h = am_E P 0 5 [some .null] (.null :: s) h) ∧
  (∀ (P : Nat × Nat) (l0 : Option Value) (s : List Value) (h : am_H), am_E P 0 5 [l0] s h = am_E P 0 8 [l0] (.int 200 :: s) h) ∧
  (∀ (P : Nat × Nat) (l0 : Option Value) (x0 : Int32) (s : List Value) (h : am_H), am_E P 0 8 [l0] (.int x0 :: s) h = if x0.toInt < 0 ∨ 1000000 < x0.toInt then none else am_E P 0 10 [l0] (.ref h.1 :: s) (ah_new h x0.toNatClampNeg (ac_I x0.toNatClampNeg (fun _ => 0)))) ∧
  (∀ (P : Nat × Nat) (l0 : Option Value) (a0 : Nat) (a1 : Nat) (s : List Value) (h : am_H), am_E P 0 10 [l0] (.ref a1 :: .ref a0 :: s) h = (am_p1 h a0 1 0 (.ref a1)).bind (fun h => am_E P 0 13 [l0] s h)) ∧
  (∀ (P : Nat × Nat) (a0 : Nat) (s : List Value) (h : am_H), am_E P 0 13 [some (.ref a0)] s h = am_E P 0 14 [some (.ref a0)] (.ref a0 :: s) h) ∧
  (∀ (P : Nat × Nat) (s : List Value) (h : am_H), am_E P 0 13 [some .null] s h = am_E P 0 14 [some .null] (.null :: s) h) ∧
  (∀ (P : Nat × Nat) (l0 : Option Value) (s : List Value) (h : am_H), am_E P 0 14 [l0] s h = am_E P 0 15 [l0] (.int 0 :: s) h) ∧
  (∀ (P : Nat × Nat) (l0 : Option Value) (a0 : Nat) (x0 : Int32) (s : List Value) (h : am_H), am_E P 0 15 [l0] (.int x0 :: .ref a0 :: s) h = (am_p1 h a0 1 1 (.int x0)).bind (fun h => am_E P 0 18 [l0] s h)) ∧
  (∀ (P : Nat × Nat) (a0 : Nat) (s : List Value) (h : am_H), am_E P 0 18 [some (.ref a0)] s h = am_E P 0 19 [some (.ref a0)] (.ref a0 :: s) h) ∧
  (∀ (P : Nat × Nat) (s : List Value) (h : am_H), am_E P 0 18 [some .null] s h = am_E P 0 19 [some .null] (.null :: s) h) ∧
  (∀ (P : Nat × Nat) (l0 : Option Value) (s : List Value) (h : am_H), am_E P 0 19 [l0] s h = am_E P 0 20 [l0] (.int 0 :: s) h) ∧
  (∀ (P : Nat × Nat) (l0 : Option Value) (a0 : Nat) (x0 : Int32) (s : List Value) (h : am_H), am_E P 0 20 [l0] (.int x0 :: .ref a0 :: s) h = (am_p1 h a0 1 2 (.int x0)).bind (fun h => am_E P 0 23 [l0] s h)) ∧
  (∀ (P : Nat × Nat) (l0 : Option Value) (h : am_H), am_E P 0 23 [l0] [] h = some (none, h)) :=
  ⟨fun _ _ _ _ => er_go rfl rfl,
  fun _ _ _ => er_go rfl rfl,
  fun _ _ _ _ => er_go rfl rfl,
  fun _ _ _ _ => er_go rfl rfl,
  fun _ _ _ => er_go rfl rfl,
  fun _ _ _ _ => er_go rfl rfl,
  fun _ _ _ _ _ => er_newa rfl rfl,
  fun _ _ _ _ _ _ => er_put1 rfl rfl,
  fun _ _ _ _ => er_go rfl rfl,
  fun _ _ _ => er_go rfl rfl,
  fun _ _ _ _ => er_go rfl rfl,
  fun _ _ _ _ _ _ => er_put1 rfl rfl,
  fun _ _ _ _ => er_go rfl rfl,
  fun _ _ _ => er_go rfl rfl,
  fun _ _ _ _ => er_go rfl rfl,
  fun _ _ _ _ _ _ => er_put1 rfl rfl,
  fun _ _ _ => er_ret rfl rfl⟩
/-- TwoStepOutputs$Barriers.add(I)V -/
theorem r1 : (∀ (P : Nat × Nat) (l1 : Option Value) (a0 : Nat) (s : List Value) (h : am_H), am_E P 1 0 [some (.ref a0), l1] s h = am_E P 1 1 [some (.ref a0), l1] (.ref a0 :: s) h) ∧
  (∀ (P : Nat × Nat) (l1 : Option Value) (s : List Value) (h : am_H), am_E P 1 0 [some .null, l1] s h = am_E P 1 1 [some .null, l1] (.null :: s) h) ∧
  (∀ (P : Nat × Nat) (l0 : Option Value) (l1 : Option Value) (a0 : Nat) (s : List Value) (h : am_H), am_E P 1 1 [l0, l1] (.ref a0 :: s) h = (am_g1 h a0 1 1).bind (fun v => am_E P 1 4 [l0, l1] (v :: s) h)) ∧
  (∀ (P : Nat × Nat) (l1 : Option Value) (a0 : Nat) (s : List Value) (h : am_H), am_E P 1 4 [some (.ref a0), l1] s h = am_E P 1 5 [some (.ref a0), l1] (.ref a0 :: s) h) ∧
  (∀ (P : Nat × Nat) (l1 : Option Value) (s : List Value) (h : am_H), am_E P 1 4 [some .null, l1] s h = am_E P 1 5 [some .null, l1] (.null :: s) h) ∧
  (∀ (P : Nat × Nat) (l0 : Option Value) (l1 : Option Value) (a0 : Nat) (s : List Value) (h : am_H), am_E P 1 5 [l0, l1] (.ref a0 :: s) h = (am_g1 h a0 1 0).bind (fun v => am_E P 1 8 [l0, l1] (v :: s) h)) ∧
  (∀ (P : Nat × Nat) (l0 : Option Value) (l1 : Option Value) (a0 : Nat) (s : List Value) (h : am_H), am_E P 1 8 [l0, l1] (.ref a0 :: s) h = (am_alen h a0).bind (fun v => am_E P 1 9 [l0, l1] (.int v :: s) h)) ∧
  (∀ (P : Nat × Nat) (l0 : Option Value) (l1 : Option Value) (x0 : Int32) (x1 : Int32) (s : List Value) (h : am_H), am_E P 1 9 [l0, l1] (.int x1 :: .int x0 :: s) h = if x1 ≤ x0 then am_E P 1 29 [l0, l1] s h else am_E P 1 12 [l0, l1] s h) ∧
  (∀ (P : Nat × Nat) (l1 : Option Value) (a0 : Nat) (s : List Value) (h : am_H), am_E P 1 12 [some (.ref a0), l1] s h = am_E P 1 13 [some (.ref a0), l1] (.ref a0 :: s) h) ∧
  (∀ (P : Nat × Nat) (l1 : Option Value) (s : List Value) (h : am_H), am_E P 1 12 [some .null, l1] s h = am_E P 1 13 [some .null, l1] (.null :: s) h) ∧
  (∀ (P : Nat × Nat) (l0 : Option Value) (l1 : Option Value) (a0 : Nat) (s : List Value) (h : am_H), am_E P 1 13 [l0, l1] (.ref a0 :: s) h = (am_g1 h a0 1 0).bind (fun v => am_E P 1 16 [l0, l1] (v :: s) h)) ∧
  (∀ (P : Nat × Nat) (l1 : Option Value) (a0 : Nat) (s : List Value) (h : am_H), am_E P 1 16 [some (.ref a0), l1] s h = am_E P 1 17 [some (.ref a0), l1] (.ref a0 :: s) h) ∧
  (∀ (P : Nat × Nat) (l1 : Option Value) (s : List Value) (h : am_H), am_E P 1 16 [some .null, l1] s h = am_E P 1 17 [some .null, l1] (.null :: s) h) ∧
  (∀ (P : Nat × Nat) (l0 : Option Value) (l1 : Option Value) (a0 : Nat) (s : List Value) (h : am_H), am_E P 1 17 [l0, l1] (.ref a0 :: s) h = am_E P 1 18 [l0, l1] (.ref a0 :: .ref a0 :: s) h) ∧
  (∀ (P : Nat × Nat) (l0 : Option Value) (l1 : Option Value) (a0 : Nat) (s : List Value) (h : am_H), am_E P 1 18 [l0, l1] (.ref a0 :: s) h = (am_g1 h a0 1 1).bind (fun v => am_E P 1 21 [l0, l1] (v :: s) h)) ∧
  (∀ (P : Nat × Nat) (l0 : Option Value) (l1 : Option Value) (x0 : Int32) (a0 : Nat) (s : List Value) (h : am_H), am_E P 1 21 [l0, l1] (.int x0 :: .ref a0 :: s) h = am_E P 1 22 [l0, l1] (.int x0 :: .ref a0 :: .int x0 :: s) h) ∧
  (∀ (P : Nat × Nat) (l0 : Option Value) (l1 : Option Value) (s : List Value) (h : am_H), am_E P 1 22 [l0, l1] s h = am_E P 1 23 [l0, l1] (.int 1 :: s) h) ∧
  (∀ (P : Nat × Nat) (l0 : Option Value) (l1 : Option Value) (x0 : Int32) (x1 : Int32) (s : List Value) (h : am_H), am_E P 1 23 [l0, l1] (.int x1 :: .int x0 :: s) h = am_E P 1 24 [l0, l1] (.int (x0 + x1) :: s) h) ∧
  (∀ (P : Nat × Nat) (l0 : Option Value) (l1 : Option Value) (a0 : Nat) (x0 : Int32) (s : List Value) (h : am_H), am_E P 1 24 [l0, l1] (.int x0 :: .ref a0 :: s) h = (am_p1 h a0 1 1 (.int x0)).bind (fun h => am_E P 1 27 [l0, l1] s h)) ∧
  (∀ (P : Nat × Nat) (l0 : Option Value) (x0 : Int32) (s : List Value) (h : am_H), am_E P 1 27 [l0, some (.int x0)] s h = am_E P 1 28 [l0, some (.int x0)] (.int x0 :: s) h) ∧
  (∀ (P : Nat × Nat) (l0 : Option Value) (l1 : Option Value) (x0 : Int32) (x1 : Int32) (a0 : Nat) (s : List Value) (h : am_H), am_E P 1 28 [l0, l1] (.int x1 :: .int x0 :: .ref a0 :: s) h = (am_iast h a0 x0 x1).bind (fun h => am_E P 1 29 [l0, l1] s h)) ∧
  (∀ (P : Nat × Nat) (l0 : Option Value) (l1 : Option Value) (h : am_H), am_E P 1 29 [l0, l1] [] h = some (none, h)) :=
  ⟨fun _ _ _ _ _ => er_go rfl rfl,
  fun _ _ _ _ => er_go rfl rfl,
  fun _ _ _ _ _ _ => er_get1 rfl,
  fun _ _ _ _ _ => er_go rfl rfl,
  fun _ _ _ _ => er_go rfl rfl,
  fun _ _ _ _ _ _ => er_get1 rfl,
  fun _ _ _ _ _ _ => er_alen rfl,
  fun _ _ _ _ _ _ _ => er_ic_ge rfl,
  fun _ _ _ _ _ => er_go rfl rfl,
  fun _ _ _ _ => er_go rfl rfl,
  fun _ _ _ _ _ _ => er_get1 rfl,
  fun _ _ _ _ _ => er_go rfl rfl,
  fun _ _ _ _ => er_go rfl rfl,
  fun _ _ _ _ _ _ => er_go rfl rfl,
  fun _ _ _ _ _ _ => er_get1 rfl,
  fun _ _ _ _ _ _ _ => er_go rfl rfl,
  fun _ _ _ _ _ => er_go rfl rfl,
  fun _ _ _ _ _ _ _ => er_go rfl rfl,
  fun _ _ _ _ _ _ _ => er_put1 rfl rfl,
  fun _ _ _ _ _ => er_go rfl rfl,
  fun _ _ _ _ _ _ _ _ => er_iast rfl,
  fun _ _ _ _ => er_ret rfl rfl⟩
/-- TwoStepOutputs$Barriers.has(I)Z -/
theorem r2 : (∀ (P : Nat × Nat) (l1 : Option Value) (l2 : Option Value) (a0 : Nat) (s : List Value) (h : am_H), am_E P 2 0 [some (.ref a0), l1, l2] s h = am_E P 2 1 [some (.ref a0), l1, l2] (.ref a0 :: s) h) ∧
  (∀ (P : Nat × Nat) (l1 : Option Value) (l2 : Option Value) (s : List Value) (h : am_H), am_E P 2 0 [some .null, l1, l2] s h = am_E P 2 1 [some .null, l1, l2] (.null :: s) h) ∧
  (∀ (P : Nat × Nat) (l0 : Option Value) (l1 : Option Value) (l2 : Option Value) (a0 : Nat) (s : List Value) (h : am_H), am_E P 2 1 [l0, l1, l2] (.ref a0 :: s) h = (am_g1 h a0 1 1).bind (fun v => am_E P 2 4 [l0, l1, l2] (v :: s) h)) ∧
  (∀ (P : Nat × Nat) (l0 : Option Value) (l1 : Option Value) (l2 : Option Value) (s : List Value) (h : am_H), am_E P 2 4 [l0, l1, l2] s h = am_E P 2 5 [l0, l1, l2] (.int 1 :: s) h) ∧
  (∀ (P : Nat × Nat) (l0 : Option Value) (l1 : Option Value) (l2 : Option Value) (x0 : Int32) (x1 : Int32) (s : List Value) (h : am_H), am_E P 2 5 [l0, l1, l2] (.int x1 :: .int x0 :: s) h = am_E P 2 6 [l0, l1, l2] (.int (x0 - x1) :: s) h) ∧
  (∀ (P : Nat × Nat) (l0 : Option Value) (l1 : Option Value) (l2 : Option Value) (x0 : Int32) (s : List Value) (h : am_H), am_E P 2 6 [l0, l1, l2] (.int x0 :: s) h = am_E P 2 7 [l0, l1, some (.int x0)] s h) ∧
  (∀ (P : Nat × Nat) (l0 : Option Value) (l1 : Option Value) (l2 : Option Value) (x0 : Int32) (s : List Value) (h : am_H), am_E P 2 8 [l0, l1, l2] (.int x0 :: s) h = if x0 < 0 then am_E P 2 29 [l0, l1, l2] s h else am_E P 2 11 [l0, l1, l2] s h) ∧
  (∀ (P : Nat × Nat) (l1 : Option Value) (l2 : Option Value) (a0 : Nat) (s : List Value) (h : am_H), am_E P 2 11 [some (.ref a0), l1, l2] s h = am_E P 2 12 [some (.ref a0), l1, l2] (.ref a0 :: s) h) ∧
  (∀ (P : Nat × Nat) (l1 : Option Value) (l2 : Option Value) (s : List Value) (h : am_H), am_E P 2 11 [some .null, l1, l2] s h = am_E P 2 12 [some .null, l1, l2] (.null :: s) h) ∧
  (∀ (P : Nat × Nat) (l0 : Option Value) (l1 : Option Value) (l2 : Option Value) (a0 : Nat) (s : List Value) (h : am_H), am_E P 2 12 [l0, l1, l2] (.ref a0 :: s) h = (am_g1 h a0 1 0).bind (fun v => am_E P 2 15 [l0, l1, l2] (v :: s) h)) ∧
  (∀ (P : Nat × Nat) (l0 : Option Value) (l1 : Option Value) (x0 : Int32) (s : List Value) (h : am_H), am_E P 2 15 [l0, l1, some (.int x0)] s h = am_E P 2 16 [l0, l1, some (.int x0)] (.int x0 :: s) h) ∧
  (∀ (P : Nat × Nat) (l0 : Option Value) (l1 : Option Value) (l2 : Option Value) (x0 : Int32) (a0 : Nat) (s : List Value) (h : am_H), am_E P 2 16 [l0, l1, l2] (.int x0 :: .ref a0 :: s) h = (am_iald h a0 x0).bind (fun v => am_E P 2 17 [l0, l1, l2] (.int v :: s) h)) ∧
  (∀ (P : Nat × Nat) (l0 : Option Value) (l2 : Option Value) (x0 : Int32) (s : List Value) (h : am_H), am_E P 2 17 [l0, some (.int x0), l2] s h = am_E P 2 18 [l0, some (.int x0), l2] (.int x0 :: s) h) ∧
  (∀ (P : Nat × Nat) (l0 : Option Value) (l1 : Option Value) (l2 : Option Value) (x0 : Int32) (x1 : Int32) (s : List Value) (h : am_H), am_E P 2 18 [l0, l1, l2] (.int x1 :: .int x0 :: s) h = if x0 = x1 then am_E P 2 21 [l0, l1, l2] s h else am_E P 2 23 [l0, l1, l2] s h) ∧
  (∀ (P : Nat × Nat) (l0 : Option Value) (l1 : Option Value) (l2 : Option Value) (s : List Value) (h : am_H), am_E P 2 21 [l0, l1, l2] s h = am_E P 2 22 [l0, l1, l2] (.int 1 :: s) h) ∧
  (∀ (P : Nat × Nat) (l0 : Option Value) (l1 : Option Value) (l2 : Option Value) (x0 : Int32) (h : am_H), am_E P 2 22 [l0, l1, l2] [.int x0] h = if x0 = 0 ∨ x0 = 1 then some (some (.int x0), h) else none) ∧
  (∀ (P : Nat × Nat) (l0 : Option Value) (l1 : Option Value) (x0 : Int32) (s : List Value) (h : am_H), am_E P 2 23 [l0, l1, some (.int x0)] s h = am_E P 2 26 [l0, l1, some (.int (x0 + (-1)))] s h) ∧
  (∀ (P : Nat × Nat) (l0 : Option Value) (l1 : Option Value) (l2 : Option Value) (s : List Value) (h : am_H), am_E P 2 26 [l0, l1, l2] s h = am_E P 2 7 [l0, l1, l2] s h) ∧
  (∀ (P : Nat × Nat) (l0 : Option Value) (l1 : Option Value) (l2 : Option Value) (s : List Value) (h : am_H), am_E P 2 29 [l0, l1, l2] s h = am_E P 2 30 [l0, l1, l2] (.int 0 :: s) h) ∧
  (∀ (P : Nat × Nat) (l0 : Option Value) (l1 : Option Value) (l2 : Option Value) (x0 : Int32) (h : am_H), am_E P 2 30 [l0, l1, l2] [.int x0] h = if x0 = 0 ∨ x0 = 1 then some (some (.int x0), h) else none) :=
  ⟨fun _ _ _ _ _ _ => er_go rfl rfl,
  fun _ _ _ _ _ => er_go rfl rfl,
  fun _ _ _ _ _ _ _ => er_get1 rfl,
  fun _ _ _ _ _ _ => er_go rfl rfl,
  fun _ _ _ _ _ _ _ _ => er_go rfl rfl,
  fun _ _ _ _ _ _ _ => er_go rfl rfl,
  fun _ _ _ _ _ _ _ => er_if_lt rfl,
  fun _ _ _ _ _ _ => er_go rfl rfl,
  fun _ _ _ _ _ => er_go rfl rfl,
  fun _ _ _ _ _ _ _ => er_get1 rfl,
  fun _ _ _ _ _ _ => er_go rfl rfl,
  fun _ _ _ _ _ _ _ _ => er_iald rfl,
  fun _ _ _ _ _ _ => er_go rfl rfl,
  fun _ _ _ _ _ _ _ _ => er_ic_ne rfl,
  fun _ _ _ _ _ _ => er_go rfl rfl,
  fun _ _ _ _ _ _ => er_retZ rfl rfl,
  fun _ _ _ _ _ _ => er_go rfl rfl,
  fun _ _ _ _ _ _ => er_go rfl rfl,
  fun _ _ _ _ _ _ => er_go rfl rfl,
  fun _ _ _ _ _ _ => er_retZ rfl rfl⟩
theorem hd2_7 : ∀ (P : Nat × Nat) (l0 : Option Value) (l1 : Option Value) (x0 : Int32) (s : List Value) (h : am_H), am_E P 2 7 [l0, l1, some (.int x0)] s h = am_E P 2 8 [l0, l1, some (.int x0)] (.int x0 :: s) h := fun _ _ _ _ _ _ => er_go rfl rfl
/-- TwoStepOutputs$Barriers.greatest()I -/
theorem r3 : (∀ (P : Nat × Nat) (a0 : Nat) (s : List Value) (h : am_H), am_E P 3 0 [some (.ref a0)] s h = am_E P 3 1 [some (.ref a0)] (.ref a0 :: s) h) ∧
  (∀ (P : Nat × Nat) (s : List Value) (h : am_H), am_E P 3 0 [some .null] s h = am_E P 3 1 [some .null] (.null :: s) h) ∧
  (∀ (P : Nat × Nat) (l0 : Option Value) (a0 : Nat) (s : List Value) (h : am_H), am_E P 3 1 [l0] (.ref a0 :: s) h = (am_g1 h a0 1 1).bind (fun v => am_E P 3 4 [l0] (v :: s) h)) ∧
  (∀ (P : Nat × Nat) (l0 : Option Value) (x0 : Int32) (s : List Value) (h : am_H), am_E P 3 4 [l0] (.int x0 :: s) h = if x0 ≤ 0 then am_E P 3 21 [l0] s h else am_E P 3 7 [l0] s h) ∧
  (∀ (P : Nat × Nat) (a0 : Nat) (s : List Value) (h : am_H), am_E P 3 7 [some (.ref a0)] s h = am_E P 3 8 [some (.ref a0)] (.ref a0 :: s) h) ∧
  (∀ (P : Nat × Nat) (s : List Value) (h : am_H), am_E P 3 7 [some .null] s h = am_E P 3 8 [some .null] (.null :: s) h) ∧
  (∀ (P : Nat × Nat) (l0 : Option Value) (a0 : Nat) (s : List Value) (h : am_H), am_E P 3 8 [l0] (.ref a0 :: s) h = (am_g1 h a0 1 0).bind (fun v => am_E P 3 11 [l0] (v :: s) h)) ∧
  (∀ (P : Nat × Nat) (a0 : Nat) (s : List Value) (h : am_H), am_E P 3 11 [some (.ref a0)] s h = am_E P 3 12 [some (.ref a0)] (.ref a0 :: s) h) ∧
  (∀ (P : Nat × Nat) (s : List Value) (h : am_H), am_E P 3 11 [some .null] s h = am_E P 3 12 [some .null] (.null :: s) h) ∧
  (∀ (P : Nat × Nat) (l0 : Option Value) (a0 : Nat) (s : List Value) (h : am_H), am_E P 3 12 [l0] (.ref a0 :: s) h = (am_g1 h a0 1 1).bind (fun v => am_E P 3 15 [l0] (v :: s) h)) ∧
  (∀ (P : Nat × Nat) (l0 : Option Value) (s : List Value) (h : am_H), am_E P 3 15 [l0] s h = am_E P 3 16 [l0] (.int 1 :: s) h) ∧
  (∀ (P : Nat × Nat) (l0 : Option Value) (x0 : Int32) (x1 : Int32) (s : List Value) (h : am_H), am_E P 3 16 [l0] (.int x1 :: .int x0 :: s) h = am_E P 3 17 [l0] (.int (x0 - x1) :: s) h) ∧
  (∀ (P : Nat × Nat) (l0 : Option Value) (x0 : Int32) (a0 : Nat) (s : List Value) (h : am_H), am_E P 3 17 [l0] (.int x0 :: .ref a0 :: s) h = (am_iald h a0 x0).bind (fun v => am_E P 3 18 [l0] (.int v :: s) h)) ∧
  (∀ (P : Nat × Nat) (l0 : Option Value) (s : List Value) (h : am_H), am_E P 3 18 [l0] s h = am_E P 3 23 [l0] s h) ∧
  (∀ (P : Nat × Nat) (l0 : Option Value) (s : List Value) (h : am_H), am_E P 3 21 [l0] s h = am_E P 3 23 [l0] (.int (-6) :: s) h) ∧
  (∀ (P : Nat × Nat) (l0 : Option Value) (x0 : Int32) (h : am_H), am_E P 3 23 [l0] [.int x0] h = some (some (.int x0), h)) :=
  ⟨fun _ _ _ _ => er_go rfl rfl,
  fun _ _ _ => er_go rfl rfl,
  fun _ _ _ _ _ => er_get1 rfl,
  fun _ _ _ _ _ => er_if_le rfl,
  fun _ _ _ _ => er_go rfl rfl,
  fun _ _ _ => er_go rfl rfl,
  fun _ _ _ _ _ => er_get1 rfl,
  fun _ _ _ _ => er_go rfl rfl,
  fun _ _ _ => er_go rfl rfl,
  fun _ _ _ _ _ => er_get1 rfl,
  fun _ _ _ _ => er_go rfl rfl,
  fun _ _ _ _ _ _ => er_go rfl rfl,
  fun _ _ _ _ _ _ => er_iald rfl,
  fun _ _ _ _ => er_go rfl rfl,
  fun _ _ _ _ => er_go rfl rfl,
  fun _ _ _ _ => er_ret rfl rfl⟩
/-- TwoStepOutputs$Barriers.dropFrom(I)V -/
theorem r4 : (∀ (P : Nat × Nat) (l0 : Option Value) (l1 : Option Value) (a0 : Nat) (s : List Value) (h : am_H), am_E P 4 1 [l0, l1] (.ref a0 :: s) h = (am_g1 h a0 1 1).bind (fun v => am_E P 4 4 [l0, l1] (v :: s) h)) ∧
  (∀ (P : Nat × Nat) (l0 : Option Value) (l1 : Option Value) (x0 : Int32) (s : List Value) (h : am_H), am_E P 4 4 [l0, l1] (.int x0 :: s) h = if x0 ≤ 0 then am_E P 4 35 [l0, l1] s h else am_E P 4 7 [l0, l1] s h) ∧
  (∀ (P : Nat × Nat) (l1 : Option Value) (a0 : Nat) (s : List Value) (h : am_H), am_E P 4 7 [some (.ref a0), l1] s h = am_E P 4 8 [some (.ref a0), l1] (.ref a0 :: s) h) ∧
  (∀ (P : Nat × Nat) (l1 : Option Value) (s : List Value) (h : am_H), am_E P 4 7 [some .null, l1] s h = am_E P 4 8 [some .null, l1] (.null :: s) h) ∧
  (∀ (P : Nat × Nat) (l0 : Option Value) (l1 : Option Value) (a0 : Nat) (s : List Value) (h : am_H), am_E P 4 8 [l0, l1] (.ref a0 :: s) h = (am_g1 h a0 1 0).bind (fun v => am_E P 4 11 [l0, l1] (v :: s) h)) ∧
  (∀ (P : Nat × Nat) (l1 : Option Value) (a0 : Nat) (s : List Value) (h : am_H), am_E P 4 11 [some (.ref a0), l1] s h = am_E P 4 12 [some (.ref a0), l1] (.ref a0 :: s) h) ∧
  (∀ (P : Nat × Nat) (l1 : Option Value) (s : List Value) (h : am_H), am_E P 4 11 [some .null, l1] s h = am_E P 4 12 [some .null, l1] (.null :: s) h) ∧
  (∀ (P : Nat × Nat) (l0 : Option Value) (l1 : Option Value) (a0 : Nat) (s : List Value) (h : am_H), am_E P 4 12 [l0, l1] (.ref a0 :: s) h = (am_g1 h a0 1 1).bind (fun v => am_E P 4 15 [l0, l1] (v :: s) h)) ∧
  (∀ (P : Nat × Nat) (l0 : Option Value) (l1 : Option Value) (s : List Value) (h : am_H), am_E P 4 15 [l0, l1] s h = am_E P 4 16 [l0, l1] (.int 1 :: s) h) ∧
  (∀ (P : Nat × Nat) (l0 : Option Value) (l1 : Option Value) (x0 : Int32) (x1 : Int32) (s : List Value) (h : am_H), am_E P 4 16 [l0, l1] (.int x1 :: .int x0 :: s) h = am_E P 4 17 [l0, l1] (.int (x0 - x1) :: s) h) ∧
  (∀ (P : Nat × Nat) (l0 : Option Value) (l1 : Option Value) (x0 : Int32) (a0 : Nat) (s : List Value) (h : am_H), am_E P 4 17 [l0, l1] (.int x0 :: .ref a0 :: s) h = (am_iald h a0 x0).bind (fun v => am_E P 4 18 [l0, l1] (.int v :: s) h)) ∧
  (∀ (P : Nat × Nat) (l0 : Option Value) (x0 : Int32) (s : List Value) (h : am_H), am_E P 4 18 [l0, some (.int x0)] s h = am_E P 4 19 [l0, some (.int x0)] (.int x0 :: s) h) ∧
  (∀ (P : Nat × Nat) (l0 : Option Value) (l1 : Option Value) (x0 : Int32) (x1 : Int32) (s : List Value) (h : am_H), am_E P 4 19 [l0, l1] (.int x1 :: .int x0 :: s) h = if x0 < x1 then am_E P 4 35 [l0, l1] s h else am_E P 4 22 [l0, l1] s h) ∧
  (∀ (P : Nat × Nat) (l1 : Option Value) (a0 : Nat) (s : List Value) (h : am_H), am_E P 4 22 [some (.ref a0), l1] s h = am_E P 4 23 [some (.ref a0), l1] (.ref a0 :: s) h) ∧
  (∀ (P : Nat × Nat) (l1 : Option Value) (s : List Value) (h : am_H), am_E P 4 22 [some .null, l1] s h = am_E P 4 23 [some .null, l1] (.null :: s) h) ∧
  (∀ (P : Nat × Nat) (l0 : Option Value) (l1 : Option Value) (a0 : Nat) (s : List Value) (h : am_H), am_E P 4 23 [l0, l1] (.ref a0 :: s) h = am_E P 4 24 [l0, l1] (.ref a0 :: .ref a0 :: s) h) ∧
  (∀ (P : Nat × Nat) (l0 : Option Value) (l1 : Option Value) (a0 : Nat) (s : List Value) (h : am_H), am_E P 4 24 [l0, l1] (.ref a0 :: s) h = (am_g1 h a0 1 1).bind (fun v => am_E P 4 27 [l0, l1] (v :: s) h)) ∧
  (∀ (P : Nat × Nat) (l0 : Option Value) (l1 : Option Value) (s : List Value) (h : am_H), am_E P 4 27 [l0, l1] s h = am_E P 4 28 [l0, l1] (.int 1 :: s) h) ∧
  (∀ (P : Nat × Nat) (l0 : Option Value) (l1 : Option Value) (x0 : Int32) (x1 : Int32) (s : List Value) (h : am_H), am_E P 4 28 [l0, l1] (.int x1 :: .int x0 :: s) h = am_E P 4 29 [l0, l1] (.int (x0 - x1) :: s) h) ∧
  (∀ (P : Nat × Nat) (l0 : Option Value) (l1 : Option Value) (a0 : Nat) (x0 : Int32) (s : List Value) (h : am_H), am_E P 4 29 [l0, l1] (.int x0 :: .ref a0 :: s) h = (am_p1 h a0 1 1 (.int x0)).bind (fun h => am_E P 4 32 [l0, l1] s h)) ∧
  (∀ (P : Nat × Nat) (l0 : Option Value) (l1 : Option Value) (s : List Value) (h : am_H), am_E P 4 32 [l0, l1] s h = am_E P 4 0 [l0, l1] s h) ∧
  (∀ (P : Nat × Nat) (l0 : Option Value) (l1 : Option Value) (h : am_H), am_E P 4 35 [l0, l1] [] h = some (none, h)) :=
  ⟨fun _ _ _ _ _ _ => er_get1 rfl,
  fun _ _ _ _ _ _ => er_if_le rfl,
  fun _ _ _ _ _ => er_go rfl rfl,
  fun _ _ _ _ => er_go rfl rfl,
  fun _ _ _ _ _ _ => er_get1 rfl,
  fun _ _ _ _ _ => er_go rfl rfl,
  fun _ _ _ _ => er_go rfl rfl,
  fun _ _ _ _ _ _ => er_get1 rfl,
  fun _ _ _ _ _ => er_go rfl rfl,
  fun _ _ _ _ _ _ _ => er_go rfl rfl,
  fun _ _ _ _ _ _ _ => er_iald rfl,
  fun _ _ _ _ _ => er_go rfl rfl,
  fun _ _ _ _ _ _ _ => er_ic_lt rfl,
  fun _ _ _ _ _ => er_go rfl rfl,
  fun _ _ _ _ => er_go rfl rfl,
  fun _ _ _ _ _ _ => er_go rfl rfl,
  fun _ _ _ _ _ _ => er_get1 rfl,
  fun _ _ _ _ _ => er_go rfl rfl,
  fun _ _ _ _ _ _ _ => er_go rfl rfl,
  fun _ _ _ _ _ _ _ => er_put1 rfl rfl,
  fun _ _ _ _ _ => er_go rfl rfl,
  fun _ _ _ _ => er_ret rfl rfl⟩
theorem hd4_0 : ∀ (P : Nat × Nat) (l1 : Option Value) (a0 : Nat) (s : List Value) (h : am_H), am_E P 4 0 [some (.ref a0), l1] s h = am_E P 4 1 [some (.ref a0), l1] (.ref a0 :: s) h := fun _ _ _ _ _ => er_go rfl rfl
theorem hd4_0n : ∀ (P : Nat × Nat) (l1 : Option Value) (s : List Value) (h : am_H), am_E P 4 0 [some .null, l1] s h = am_E P 4 1 [some .null, l1] (.null :: s) h := fun _ _ _ _ => er_go rfl rfl
/-- TwoStepOutputs$Disk.<init>()V -/
theorem r5 : (∀ (P : Nat × Nat) (a0 : Nat) (s : List Value) (h : am_H), am_E P 5 0 [some (.ref a0)] s h = am_E P 5 1 [some (.ref a0)] (.ref a0 :: s) h) ∧
  (∀ (P : Nat × Nat) (s : List Value) (h : am_H), am_E P 5 0 [some .null] s h = am_E P 5 1 [some .null] (.null :: s) h) ∧
  (∀ (P : Nat × Nat) (l0 : Option Value) (s : List Value) (h : am_H), am_E P 5 1 [l0] s h = am_E P 5 2 [l0] (.int 5 :: s) h) ∧
  (∀ (P : Nat × Nat) (l0 : Option Value) (a0 : Nat) (x0 : Int32) (h : am_H), am_E P 5 2 [l0] [.int x0, .ref a0] h = (am_E P 23 0 [some (.ref a0), some (.int x0)] [] h).bind (fun q => am_E P 5 5 [l0] (q.1.toList ++ []) q.2)) ∧
  (∀ (P : Nat × Nat) (l0 : Option Value) (h : am_H), am_E P 5 5 [l0] [] h = some (none, h)) :=
  ⟨fun _ _ _ _ => er_go rfl rfl,
  fun _ _ _ => er_go rfl rfl,
  fun _ _ _ _ => er_go rfl rfl,
  fun _ _ _ _ _ => er_callS rfl rfl rfl,
  fun _ _ _ => er_ret rfl rfl⟩
/-- TwoStepOutputs$Disk.add(IIIII)V -/
theorem r6 : (∀ (P : Nat × Nat) (l1 : Option Value) (l2 : Option Value) (l3 : Option Value) (l4 : Option Value) (l5 : Option Value) (l6 : Option Value) (a0 : Nat) (s : List Value) (h : am_H), am_E P 6 0 [some (.ref a0), l1, l2, l3, l4, l5, l6] s h = am_E P 6 1 [some (.ref a0), l1, l2, l3, l4, l5, l6] (.ref a0 :: s) h) ∧
  (∀ (P : Nat × Nat) (l1 : Option Value) (l2 : Option Value) (l3 : Option Value) (l4 : Option Value) (l5 : Option Value) (l6 : Option Value) (s : List Value) (h : am_H), am_E P 6 0 [some .null, l1, l2, l3, l4, l5, l6] s h = am_E P 6 1 [some .null, l1, l2, l3, l4, l5, l6] (.null :: s) h) ∧
  (∀ (P : Nat × Nat) (l0 : Option Value) (l1 : Option Value) (l2 : Option Value) (l3 : Option Value) (l4 : Option Value) (l5 : Option Value) (l6 : Option Value) (a0 : Nat) (h : am_H), am_E P 6 1 [l0, l1, l2, l3, l4, l5, l6] [.ref a0] h = if am_cls h a0 = some 2 then (am_E P 28 0 [some (.ref a0), none] [] h).bind (fun q => am_E P 6 4 [l0, l1, l2, l3, l4, l5, l6] (q.1.toList ++ []) q.2) else none) ∧
  (∀ (P : Nat × Nat) (l0 : Option Value) (l1 : Option Value) (l2 : Option Value) (l3 : Option Value) (l4 : Option Value) (l5 : Option Value) (l6 : Option Value) (x0 : Int32) (s : List Value) (h : am_H), am_E P 6 4 [l0, l1, l2, l3, l4, l5, l6] (.int x0 :: s) h = am_E P 6 6 [l0, l1, l2, l3, l4, l5, some (.int x0)] s h) ∧
  (∀ (P : Nat × Nat) (l1 : Option Value) (l2 : Option Value) (l3 : Option Value) (l4 : Option Value) (l5 : Option Value) (l6 : Option Value) (a0 : Nat) (s : List Value) (h : am_H), am_E P 6 6 [some (.ref a0), l1, l2, l3, l4, l5, l6] s h = am_E P 6 7 [some (.ref a0), l1, l2, l3, l4, l5, l6] (.ref a0 :: s) h) ∧
  (∀ (P : Nat × Nat) (l1 : Option Value) (l2 : Option Value) (l3 : Option Value) (l4 : Option Value) (l5 : Option Value) (l6 : Option Value) (s : List Value) (h : am_H), am_E P 6 6 [some .null, l1, l2, l3, l4, l5, l6] s h = am_E P 6 7 [some .null, l1, l2, l3, l4, l5, l6] (.null :: s) h) ∧
  (∀ (P : Nat × Nat) (l0 : Option Value) (l1 : Option Value) (l2 : Option Value) (l3 : Option Value) (l4 : Option Value) (l5 : Option Value) (x0 : Int32) (s : List Value) (h : am_H), am_E P 6 7 [l0, l1, l2, l3, l4, l5, some (.int x0)] s h = am_E P 6 9 [l0, l1, l2, l3, l4, l5, some (.int x0)] (.int x0 :: s) h) ∧
  (∀ (P : Nat × Nat) (l0 : Option Value) (l1 : Option Value) (l2 : Option Value) (l3 : Option Value) (l4 : Option Value) (l5 : Option Value) (l6 : Option Value) (s : List Value) (h : am_H), am_E P 6 9 [l0, l1, l2, l3, l4, l5, l6] s h = am_E P 6 10 [l0, l1, l2, l3, l4, l5, l6] (.int 0 :: s) h) ∧
  (∀ (P : Nat × Nat) (l0 : Option Value) (l2 : Option Value) (l3 : Option Value) (l4 : Option Value) (l5 : Option Value) (l6 : Option Value) (x0 : Int32) (s : List Value) (h : am_H), am_E P 6 10 [l0, some (.int x0), l2, l3, l4, l5, l6] s h = am_E P 6 11 [l0, some (.int x0), l2, l3, l4, l5, l6] (.int x0 :: s) h) ∧
  (∀ (P : Nat × Nat) (l0 : Option Value) (l1 : Option Value) (l2 : Option Value) (l3 : Option Value) (l4 : Option Value) (l5 : Option Value) (l6 : Option Value) (a0 : Nat) (x0 : Int32) (x1 : Int32) (x2 : Int32) (h : am_H), am_E P 6 11 [l0, l1, l2, l3, l4, l5, l6] [.int x2, .int x1, .int x0, .ref a0] h = if am_cls h a0 = some 2 then (am_E P 27 0 [some (.ref a0), some (.int x0), some (.int x1), some (.int x2)] [] h).bind (fun q => am_E P 6 14 [l0, l1, l2, l3, l4, l5, l6] (q.1.toList ++ []) q.2) else none) ∧
  (∀ (P : Nat × Nat) (l1 : Option Value) (l2 : Option Value) (l3 : Option Value) (l4 : Option Value) (l5 : Option Value) (l6 : Option Value) (a0 : Nat) (s : List Value) (h : am_H), am_E P 6 14 [some (.ref a0), l1, l2, l3, l4, l5, l6] s h = am_E P 6 15 [some (.ref a0), l1, l2, l3, l4, l5, l6] (.ref a0 :: s) h) ∧
  (∀ (P : Nat × Nat) (l1 : Option Value) (l2 : Option Value) (l3 : Option Value) (l4 : Option Value) (l5 : Option Value) (l6 : Option Value) (s : List Value) (h : am_H), am_E P 6 14 [some .null, l1, l2, l3, l4, l5, l6] s h = am_E P 6 15 [some .null, l1, l2, l3, l4, l5, l6] (.null :: s) h) ∧
  (∀ (P : Nat × Nat) (l0 : Option Value) (l1 : Option Value) (l2 : Option Value) (l3 : Option Value) (l4 : Option Value) (l5 : Option Value) (x0 : Int32) (s : List Value) (h : am_H), am_E P 6 15 [l0, l1, l2, l3, l4, l5, some (.int x0)] s h = am_E P 6 17 [l0, l1, l2, l3, l4, l5, some (.int x0)] (.int x0 :: s) h) ∧
  (∀ (P : Nat × Nat) (l0 : Option Value) (l1 : Option Value) (l2 : Option Value) (l3 : Option Value) (l4 : Option Value) (l5 : Option Value) (l6 : Option Value) (s : List Value) (h : am_H), am_E P 6 17 [l0, l1, l2, l3, l4, l5, l6] s h = am_E P 6 18 [l0, l1, l2, l3, l4, l5, l6] (.int 1 :: s) h) ∧
  (∀ (P : Nat × Nat) (l0 : Option Value) (l1 : Option Value) (l3 : Option Value) (l4 : Option Value) (l5 : Option Value) (l6 : Option Value) (x0 : Int32) (s : List Value) (h : am_H), am_E P 6 18 [l0, l1, some (.int x0), l3, l4, l5, l6] s h = am_E P 6 19 [l0, l1, some (.int x0), l3, l4, l5, l6] (.int x0 :: s) h) ∧
  (∀ (P : Nat × Nat) (l0 : Option Value) (l1 : Option Value) (l2 : Option Value) (l3 : Option Value) (l4 : Option Value) (l5 : Option Value) (l6 : Option Value) (a0 : Nat) (x0 : Int32) (x1 : Int32) (x2 : Int32) (h : am_H), am_E P 6 19 [l0, l1, l2, l3, l4, l5, l6] [.int x2, .int x1, .int x0, .ref a0] h = if am_cls h a0 = some 2 then (am_E P 27 0 [some (.ref a0), some (.int x0), some (.int x1), some (.int x2)] [] h).bind (fun q => am_E P 6 22 [l0, l1, l2, l3, l4, l5, l6] (q.1.toList ++ []) q.2) else none) ∧
  (∀ (P : Nat × Nat) (l1 : Option Value) (l2 : Option Value) (l3 : Option Value) (l4 : Option Value) (l5 : Option Value) (l6 : Option Value) (a0 : Nat) (s : List Value) (h : am_H), am_E P 6 22 [some (.ref a0), l1, l2, l3, l4, l5, l6] s h = am_E P 6 23 [some (.ref a0), l1, l2, l3, l4, l5, l6] (.ref a0 :: s) h) ∧
  (∀ (P : Nat × Nat) (l1 : Option Value) (l2 : Option Value) (l3 : Option Value) (l4 : Option Value) (l5 : Option Value) (l6 : Option Value) (s : List Value) (h : am_H), am_E P 6 22 [some .null, l1, l2, l3, l4, l5, l6] s h = am_E P 6 23 [some .null, l1, l2, l3, l4, l5, l6] (.null :: s) h) ∧
  (∀ (P : Nat × Nat) (l0 : Option Value) (l1 : Option Value) (l2 : Option Value) (l3 : Option Value) (l4 : Option Value) (l5 : Option Value) (x0 : Int32) (s : List Value) (h : am_H), am_E P 6 23 [l0, l1, l2, l3, l4, l5, some (.int x0)] s h = am_E P 6 25 [l0, l1, l2, l3, l4, l5, some (.int x0)] (.int x0 :: s) h) ∧
  (∀ (P : Nat × Nat) (l0 : Option Value) (l1 : Option Value) (l2 : Option Value) (l3 : Option Value) (l4 : Option Value) (l5 : Option Value) (l6 : Option Value) (s : List Value) (h : am_H), am_E P 6 25 [l0, l1, l2, l3, l4, l5, l6] s h = am_E P 6 26 [l0, l1, l2, l3, l4, l5, l6] (.int 2 :: s) h) ∧
  (∀ (P : Nat × Nat) (l0 : Option Value) (l1 : Option Value) (l2 : Option Value) (l4 : Option Value) (l5 : Option Value) (l6 : Option Value) (x0 : Int32) (s : List Value) (h : am_H), am_E P 6 26 [l0, l1, l2, some (.int x0), l4, l5, l6] s h = am_E P 6 27 [l0, l1, l2, some (.int x0), l4, l5, l6] (.int x0 :: s) h) ∧
  (∀ (P : Nat × Nat) (l0 : Option Value) (l1 : Option Value) (l2 : Option Value) (l3 : Option Value) (l4 : Option Value) (l5 : Option Value) (l6 : Option Value) (a0 : Nat) (x0 : Int32) (x1 : Int32) (x2 : Int32) (h : am_H), am_E P 6 27 [l0, l1, l2, l3, l4, l5, l6] [.int x2, .int x1, .int x0, .ref a0] h = if am_cls h a0 = some 2 then (am_E P 27 0 [some (.ref a0), some (.int x0), some (.int x1), some (.int x2)] [] h).bind (fun q => am_E P 6 30 [l0, l1, l2, l3, l4, l5, l6] (q.1.toList ++ []) q.2) else none) ∧
  (∀ (P : Nat × Nat) (l1 : Option Value) (l2 : Option Value) (l3 : Option Value) (l4 : Option Value) (l5 : Option Value) (l6 : Option Value) (a0 : Nat) (s : List Value) (h : am_H), am_E P 6 30 [some (.ref a0), l1, l2, l3, l4, l5, l6] s h = am_E P 6 31 [some (.ref a0), l1, l2, l3, l4, l5, l6] (.ref a0 :: s) h) ∧
  (∀ (P : Nat × Nat) (l1 : Option Value) (l2 : Option Value) (l3 : Option Value) (l4 : Option Value) (l5 : Option Value) (l6 : Option Value) (s : List Value) (h : am_H), am_E P 6 30 [some .null, l1, l2, l3, l4, l5, l6] s h = am_E P 6 31 [some .null, l1, l2, l3, l4, l5, l6] (.null :: s) h) ∧
  (∀ (P : Nat × Nat) (l0 : Option Value) (l1 : Option Value) (l2 : Option Value) (l3 : Option Value) (l4 : Option Value) (l5 : Option Value) (x0 : Int32) (s : List Value) (h : am_H), am_E P 6 31 [l0, l1, l2, l3, l4, l5, some (.int x0)] s h = am_E P 6 33 [l0, l1, l2, l3, l4, l5, some (.int x0)] (.int x0 :: s) h) ∧
  (∀ (P : Nat × Nat) (l0 : Option Value) (l1 : Option Value) (l2 : Option Value) (l3 : Option Value) (l4 : Option Value) (l5 : Option Value) (l6 : Option Value) (s : List Value) (h : am_H), am_E P 6 33 [l0, l1, l2, l3, l4, l5, l6] s h = am_E P 6 34 [l0, l1, l2, l3, l4, l5, l6] (.int 3 :: s) h) ∧
  (∀ (P : Nat × Nat) (l0 : Option Value) (l1 : Option Value) (l2 : Option Value) (l3 : Option Value) (l5 : Option Value) (l6 : Option Value) (x0 : Int32) (s : List Value) (h : am_H), am_E P 6 34 [l0, l1, l2, l3, some (.int x0), l5, l6] s h = am_E P 6 36 [l0, l1, l2, l3, some (.int x0), l5, l6] (.int x0 :: s) h) ∧
  (∀ (P : Nat × Nat) (l0 : Option Value) (l1 : Option Value) (l2 : Option Value) (l3 : Option Value) (l4 : Option Value) (l5 : Option Value) (l6 : Option Value) (a0 : Nat) (x0 : Int32) (x1 : Int32) (x2 : Int32) (h : am_H), am_E P 6 36 [l0, l1, l2, l3, l4, l5, l6] [.int x2, .int x1, .int x0, .ref a0] h = if am_cls h a0 = some 2 then (am_E P 27 0 [some (.ref a0), some (.int x0), some (.int x1), some (.int x2)] [] h).bind (fun q => am_E P 6 39 [l0, l1, l2, l3, l4, l5, l6] (q.1.toList ++ []) q.2) else none) ∧
  (∀ (P : Nat × Nat) (l1 : Option Value) (l2 : Option Value) (l3 : Option Value) (l4 : Option Value) (l5 : Option Value) (l6 : Option Value) (a0 : Nat) (s : List Value) (h : am_H), am_E P 6 39 [some (.ref a0), l1, l2, l3, l4, l5, l6] s h = am_E P 6 40 [some (.ref a0), l1, l2, l3, l4, l5, l6] (.ref a0 :: s) h) ∧
  (∀ (P : Nat × Nat) (l1 : Option Value) (l2 : Option Value) (l3 : Option Value) (l4 : Option Value) (l5 : Option Value) (l6 : Option Value) (s : List Value) (h : am_H), am_E P 6 39 [some .null, l1, l2, l3, l4, l5, l6] s h = am_E P 6 40 [some .null, l1, l2, l3, l4, l5, l6] (.null :: s) h) ∧
  (∀ (P : Nat × Nat) (l0 : Option Value) (l1 : Option Value) (l2 : Option Value) (l3 : Option Value) (l4 : Option Value) (l5 : Option Value) (x0 : Int32) (s : List Value) (h : am_H), am_E P 6 40 [l0, l1, l2, l3, l4, l5, some (.int x0)] s h = am_E P 6 42 [l0, l1, l2, l3, l4, l5, some (.int x0)] (.int x0 :: s) h) ∧
  (∀ (P : Nat × Nat) (l0 : Option Value) (l1 : Option Value) (l2 : Option Value) (l3 : Option Value) (l4 : Option Value) (l5 : Option Value) (l6 : Option Value) (s : List Value) (h : am_H), am_E P 6 42 [l0, l1, l2, l3, l4, l5, l6] s h = am_E P 6 43 [l0, l1, l2, l3, l4, l5, l6] (.int 4 :: s) h) ∧
  (∀ (P : Nat × Nat) (l0 : Option Value) (l1 : Option Value) (l2 : Option Value) (l3 : Option Value) (l4 : Option Value) (l6 : Option Value) (x0 : Int32) (s : List Value) (h : am_H), am_E P 6 43 [l0, l1, l2, l3, l4, some (.int x0), l6] s h = am_E P 6 45 [l0, l1, l2, l3, l4, some (.int x0), l6] (.int x0 :: s) h) ∧
  (∀ (P : Nat × Nat) (l0 : Option Value) (l1 : Option Value) (l2 : Option Value) (l3 : Option Value) (l4 : Option Value) (l5 : Option Value) (l6 : Option Value) (a0 : Nat) (x0 : Int32) (x1 : Int32) (x2 : Int32) (h : am_H), am_E P 6 45 [l0, l1, l2, l3, l4, l5, l6] [.int x2, .int x1, .int x0, .ref a0] h = if am_cls h a0 = some 2 then (am_E P 27 0 [some (.ref a0), some (.int x0), some (.int x1), some (.int x2)] [] h).bind (fun q => am_E P 6 48 [l0, l1, l2, l3, l4, l5, l6] (q.1.toList ++ []) q.2) else none) ∧
  (∀ (P : Nat × Nat) (l0 : Option Value) (l1 : Option Value) (l2 : Option Value) (l3 : Option Value) (l4 : Option Value) (l5 : Option Value) (l6 : Option Value) (h : am_H), am_E P 6 48 [l0, l1, l2, l3, l4, l5, l6] [] h = some (none, h)) :=
  ⟨fun _ _ _ _ _ _ _ _ _ _ => er_go rfl rfl,
  fun _ _ _ _ _ _ _ _ _ => er_go rfl rfl,
  fun _ _ _ _ _ _ _ _ _ _ => er_callV rfl rfl rfl rfl,
  fun _ _ _ _ _ _ _ _ _ _ _ => er_go rfl rfl,
  fun _ _ _ _ _ _ _ _ _ _ => er_go rfl rfl,
  fun _ _ _ _ _ _ _ _ _ => er_go rfl rfl,
  fun _ _ _ _ _ _ _ _ _ _ => er_go rfl rfl,
  fun _ _ _ _ _ _ _ _ _ _ => er_go rfl rfl,
  fun _ _ _ _ _ _ _ _ _ _ => er_go rfl rfl,
  fun _ _ _ _ _ _ _ _ _ _ _ _ _ => er_callV rfl rfl rfl rfl,
  fun _ _ _ _ _ _ _ _ _ _ => er_go rfl rfl,
  fun _ _ _ _ _ _ _ _ _ => er_go rfl rfl,
  fun _ _ _ _ _ _ _ _ _ _ => er_go rfl rfl,
  fun _ _ _ _ _ _ _ _ _ _ => er_go rfl rfl,
  fun _ _ _ _ _ _ _ _ _ _ => er_go rfl rfl,
  fun _ _ _ _ _ _ _ _ _ _ _ _ _ => er_callV rfl rfl rfl rfl,
  fun _ _ _ _ _ _ _ _ _ _ => er_go rfl rfl,
  fun _ _ _ _ _ _ _ _ _ => er_go rfl rfl,
  fun _ _ _ _ _ _ _ _ _ _ => er_go rfl rfl,
  fun _ _ _ _ _ _ _ _ _ _ => er_go rfl rfl,
  fun _ _ _ _ _ _ _ _ _ _ => er_go rfl rfl,
  fun _ _ _ _ _ _ _ _ _ _ _ _ _ => er_callV rfl rfl rfl rfl,
  fun _ _ _ _ _ _ _ _ _ _ => er_go rfl rfl,
  fun _ _ _ _ _ _ _ _ _ => er_go rfl rfl,
  fun _ _ _ _ _ _ _ _ _ _ => er_go rfl rfl,
  fun _ _ _ _ _ _ _ _ _ _ => er_go rfl rfl,
  fun _ _ _ _ _ _ _ _ _ _ => er_go rfl rfl,
  fun _ _ _ _ _ _ _ _ _ _ _ _ _ => er_callV rfl rfl rfl rfl,
  fun _ _ _ _ _ _ _ _ _ _ => er_go rfl rfl,
  fun _ _ _ _ _ _ _ _ _ => er_go rfl rfl,
  fun _ _ _ _ _ _ _ _ _ _ => er_go rfl rfl,
  fun _ _ _ _ _ _ _ _ _ _ => er_go rfl rfl,
  fun _ _ _ _ _ _ _ _ _ _ => er_go rfl rfl,
  fun _ _ _ _ _ _ _ _ _ _ _ _ _ => er_callV rfl rfl rfl rfl,
  fun _ _ _ _ _ _ _ _ _ => er_ret rfl rfl⟩
/-- TwoStepOutputs$Lines.<init>()V -/
theorem r7 : (∀ (P : Nat × Nat) (a0 : Nat) (s : List Value) (h : am_H), am_E P 7 0 [some (.ref a0)] s h = am_E P 7 1 [some (.ref a0)] (.ref a0 :: s) h) ∧
  (∀ (P : Nat × Nat) (s : List Value) (h : am_H), am_E P 7 0 [some .null] s h = am_E P 7 1 [some .null] (.null :: s) h) ∧
  (∀ (P : Nat × Nat) (l0 : Option Value) (s : List Value) (h : am_H), am_E P 7 1 [l0] s h = am_E P 7 2 [l0] (.int 4 :: s) h) ∧
  (∀ (P : Nat × Nat) (l0 : Option Value) (a0 : Nat) (x0 : Int32) (h : am_H), am_E P 7 2 [l0] [.int x0, .ref a0] h = (am_E P 23 0 [some (.ref a0), some (.int x0)] [] h).bind (fun q => am_E P 7 5 [l0] (q.1.toList ++ []) q.2)) ∧
  (∀ (P : Nat × Nat) (l0 : Option Value) (h : am_H), am_E P 7 5 [l0] [] h = some (none, h)) :=
  ⟨fun _ _ _ _ => er_go rfl rfl,
  fun _ _ _ => er_go rfl rfl,
  fun _ _ _ _ => er_go rfl rfl,
  fun _ _ _ _ _ => er_callS rfl rfl rfl,
  fun _ _ _ => er_ret rfl rfl⟩
/-- TwoStepOutputs$Lines.take(IIII)Z -/
theorem r8 : (∀ (P : Nat × Nat) (l1 : Option Value) (l2 : Option Value) (l3 : Option Value) (l4 : Option Value) (l5 : Option Value) (a0 : Nat) (s : List Value) (h : am_H), am_E P 8 0 [some (.ref a0), l1, l2, l3, l4, l5] s h = am_E P 8 1 [some (.ref a0), l1, l2, l3, l4, l5] (.ref a0 :: s) h) ∧
  (∀ (P : Nat × Nat) (l1 : Option Value) (l2 : Option Value) (l3 : Option Value) (l4 : Option Value) (l5 : Option Value) (s : List Value) (h : am_H), am_E P 8 0 [some .null, l1, l2, l3, l4, l5] s h = am_E P 8 1 [some .null, l1, l2, l3, l4, l5] (.null :: s) h) ∧
  (∀ (P : Nat × Nat) (l0 : Option Value) (l1 : Option Value) (l2 : Option Value) (l4 : Option Value) (l5 : Option Value) (x0 : Int32) (s : List Value) (h : am_H), am_E P 8 1 [l0, l1, l2, some (.int x0), l4, l5] s h = am_E P 8 2 [l0, l1, l2, some (.int x0), l4, l5] (.int x0 :: s) h) ∧
  (∀ (P : Nat × Nat) (l0 : Option Value) (l1 : Option Value) (l2 : Option Value) (l3 : Option Value) (l5 : Option Value) (x0 : Int32) (s : List Value) (h : am_H), am_E P 8 2 [l0, l1, l2, l3, some (.int x0), l5] s h = am_E P 8 4 [l0, l1, l2, l3, some (.int x0), l5] (.int x0 :: s) h) ∧
  (∀ (P : Nat × Nat) (l0 : Option Value) (l1 : Option Value) (l2 : Option Value) (l3 : Option Value) (l4 : Option Value) (l5 : Option Value) (a0 : Nat) (x0 : Int32) (x1 : Int32) (h : am_H), am_E P 8 4 [l0, l1, l2, l3, l4, l5] [.int x1, .int x0, .ref a0] h = if am_cls h a0 = some 3 then (am_E P 9 0 [some (.ref a0), some (.int x0), some (.int x1), none, none] [] h).bind (fun q => am_E P 8 7 [l0, l1, l2, l3, l4, l5] (q.1.toList ++ []) q.2) else none) ∧
  (∀ (P : Nat × Nat) (l0 : Option Value) (l1 : Option Value) (l2 : Option Value) (l3 : Option Value) (l4 : Option Value) (l5 : Option Value) (x0 : Int32) (s : List Value) (h : am_H), am_E P 8 7 [l0, l1, l2, l3, l4, l5] (.int x0 :: s) h = if x0 = 0 then am_E P 8 12 [l0, l1, l2, l3, l4, l5] s h else am_E P 8 10 [l0, l1, l2, l3, l4, l5] s h) ∧
  (∀ (P : Nat × Nat) (l0 : Option Value) (l1 : Option Value) (l2 : Option Value) (l3 : Option Value) (l4 : Option Value) (l5 : Option Value) (s : List Value) (h : am_H), am_E P 8 10 [l0, l1, l2, l3, l4, l5] s h = am_E P 8 11 [l0, l1, l2, l3, l4, l5] (.int 0 :: s) h) ∧
  (∀ (P : Nat × Nat) (l0 : Option Value) (l1 : Option Value) (l2 : Option Value) (l3 : Option Value) (l4 : Option Value) (l5 : Option Value) (x0 : Int32) (h : am_H), am_E P 8 11 [l0, l1, l2, l3, l4, l5] [.int x0] h = if x0 = 0 ∨ x0 = 1 then some (some (.int x0), h) else none) ∧
  (∀ (P : Nat × Nat) (l1 : Option Value) (l2 : Option Value) (l3 : Option Value) (l4 : Option Value) (l5 : Option Value) (a0 : Nat) (s : List Value) (h : am_H), am_E P 8 12 [some (.ref a0), l1, l2, l3, l4, l5] s h = am_E P 8 13 [some (.ref a0), l1, l2, l3, l4, l5] (.ref a0 :: s) h) ∧
  (∀ (P : Nat × Nat) (l1 : Option Value) (l2 : Option Value) (l3 : Option Value) (l4 : Option Value) (l5 : Option Value) (s : List Value) (h : am_H), am_E P 8 12 [some .null, l1, l2, l3, l4, l5] s h = am_E P 8 13 [some .null, l1, l2, l3, l4, l5] (.null :: s) h) ∧
  (∀ (P : Nat × Nat) (l0 : Option Value) (l1 : Option Value) (l2 : Option Value) (l3 : Option Value) (l4 : Option Value) (l5 : Option Value) (a0 : Nat) (h : am_H), am_E P 8 13 [l0, l1, l2, l3, l4, l5] [.ref a0] h = if am_cls h a0 = some 3 then (am_E P 28 0 [some (.ref a0), none] [] h).bind (fun q => am_E P 8 16 [l0, l1, l2, l3, l4, l5] (q.1.toList ++ []) q.2) else none) ∧
  (∀ (P : Nat × Nat) (l0 : Option Value) (l1 : Option Value) (l2 : Option Value) (l3 : Option Value) (l4 : Option Value) (l5 : Option Value) (x0 : Int32) (s : List Value) (h : am_H), am_E P 8 16 [l0, l1, l2, l3, l4, l5] (.int x0 :: s) h = am_E P 8 18 [l0, l1, l2, l3, l4, some (.int x0)] s h) ∧
  (∀ (P : Nat × Nat) (l1 : Option Value) (l2 : Option Value) (l3 : Option Value) (l4 : Option Value) (l5 : Option Value) (a0 : Nat) (s : List Value) (h : am_H), am_E P 8 18 [some (.ref a0), l1, l2, l3, l4, l5] s h = am_E P 8 19 [some (.ref a0), l1, l2, l3, l4, l5] (.ref a0 :: s) h) ∧
  (∀ (P : Nat × Nat) (l1 : Option Value) (l2 : Option Value) (l3 : Option Value) (l4 : Option Value) (l5 : Option Value) (s : List Value) (h : am_H), am_E P 8 18 [some .null, l1, l2, l3, l4, l5] s h = am_E P 8 19 [some .null, l1, l2, l3, l4, l5] (.null :: s) h) ∧
  (∀ (P : Nat × Nat) (l0 : Option Value) (l1 : Option Value) (l2 : Option Value) (l3 : Option Value) (l4 : Option Value) (x0 : Int32) (s : List Value) (h : am_H), am_E P 8 19 [l0, l1, l2, l3, l4, some (.int x0)] s h = am_E P 8 21 [l0, l1, l2, l3, l4, some (.int x0)] (.int x0 :: s) h) ∧
  (∀ (P : Nat × Nat) (l0 : Option Value) (l1 : Option Value) (l2 : Option Value) (l3 : Option Value) (l4 : Option Value) (l5 : Option Value) (s : List Value) (h : am_H), am_E P 8 21 [l0, l1, l2, l3, l4, l5] s h = am_E P 8 22 [l0, l1, l2, l3, l4, l5] (.int 0 :: s) h) ∧
  (∀ (P : Nat × Nat) (l0 : Option Value) (l2 : Option Value) (l3 : Option Value) (l4 : Option Value) (l5 : Option Value) (x0 : Int32) (s : List Value) (h : am_H), am_E P 8 22 [l0, some (.int x0), l2, l3, l4, l5] s h = am_E P 8 23 [l0, some (.int x0), l2, l3, l4, l5] (.int x0 :: s) h) ∧
  (∀ (P : Nat × Nat) (l0 : Option Value) (l1 : Option Value) (l2 : Option Value) (l3 : Option Value) (l4 : Option Value) (l5 : Option Value) (a0 : Nat) (x0 : Int32) (x1 : Int32) (x2 : Int32) (h : am_H), am_E P 8 23 [l0, l1, l2, l3, l4, l5] [.int x2, .int x1, .int x0, .ref a0] h = if am_cls h a0 = some 3 then (am_E P 27 0 [some (.ref a0), some (.int x0), some (.int x1), some (.int x2)] [] h).bind (fun q => am_E P 8 26 [l0, l1, l2, l3, l4, l5] (q.1.toList ++ []) q.2) else none) ∧
  (∀ (P : Nat × Nat) (l1 : Option Value) (l2 : Option Value) (l3 : Option Value) (l4 : Option Value) (l5 : Option Value) (a0 : Nat) (s : List Value) (h : am_H), am_E P 8 26 [some (.ref a0), l1, l2, l3, l4, l5] s h = am_E P 8 27 [some (.ref a0), l1, l2, l3, l4, l5] (.ref a0 :: s) h) ∧
  (∀ (P : Nat × Nat) (l1 : Option Value) (l2 : Option Value) (l3 : Option Value) (l4 : Option Value) (l5 : Option Value) (s : List Value) (h : am_H), am_E P 8 26 [some .null, l1, l2, l3, l4, l5] s h = am_E P 8 27 [some .null, l1, l2, l3, l4, l5] (.null :: s) h) ∧
  (∀ (P : Nat × Nat) (l0 : Option Value) (l1 : Option Value) (l2 : Option Value) (l3 : Option Value) (l4 : Option Value) (x0 : Int32) (s : List Value) (h : am_H), am_E P 8 27 [l0, l1, l2, l3, l4, some (.int x0)] s h = am_E P 8 29 [l0, l1, l2, l3, l4, some (.int x0)] (.int x0 :: s) h) ∧
  (∀ (P : Nat × Nat) (l0 : Option Value) (l1 : Option Value) (l2 : Option Value) (l3 : Option Value) (l4 : Option Value) (l5 : Option Value) (s : List Value) (h : am_H), am_E P 8 29 [l0, l1, l2, l3, l4, l5] s h = am_E P 8 30 [l0, l1, l2, l3, l4, l5] (.int 1 :: s) h) ∧
  (∀ (P : Nat × Nat) (l0 : Option Value) (l1 : Option Value) (l3 : Option Value) (l4 : Option Value) (l5 : Option Value) (x0 : Int32) (s : List Value) (h : am_H), am_E P 8 30 [l0, l1, some (.int x0), l3, l4, l5] s h = am_E P 8 31 [l0, l1, some (.int x0), l3, l4, l5] (.int x0 :: s) h) ∧
  (∀ (P : Nat × Nat) (l0 : Option Value) (l1 : Option Value) (l2 : Option Value) (l3 : Option Value) (l4 : Option Value) (l5 : Option Value) (a0 : Nat) (x0 : Int32) (x1 : Int32) (x2 : Int32) (h : am_H), am_E P 8 31 [l0, l1, l2, l3, l4, l5] [.int x2, .int x1, .int x0, .ref a0] h = if am_cls h a0 = some 3 then (am_E P 27 0 [some (.ref a0), some (.int x0), some (.int x1), some (.int x2)] [] h).bind (fun q => am_E P 8 34 [l0, l1, l2, l3, l4, l5] (q.1.toList ++ []) q.2) else none) ∧
  (∀ (P : Nat × Nat) (l1 : Option Value) (l2 : Option Value) (l3 : Option Value) (l4 : Option Value) (l5 : Option Value) (a0 : Nat) (s : List Value) (h : am_H), am_E P 8 34 [some (.ref a0), l1, l2, l3, l4, l5] s h = am_E P 8 35 [some (.ref a0), l1, l2, l3, l4, l5] (.ref a0 :: s) h) ∧
  (∀ (P : Nat × Nat) (l1 : Option Value) (l2 : Option Value) (l3 : Option Value) (l4 : Option Value) (l5 : Option Value) (s : List Value) (h : am_H), am_E P 8 34 [some .null, l1, l2, l3, l4, l5] s h = am_E P 8 35 [some .null, l1, l2, l3, l4, l5] (.null :: s) h) ∧
  (∀ (P : Nat × Nat) (l0 : Option Value) (l1 : Option Value) (l2 : Option Value) (l3 : Option Value) (l4 : Option Value) (x0 : Int32) (s : List Value) (h : am_H), am_E P 8 35 [l0, l1, l2, l3, l4, some (.int x0)] s h = am_E P 8 37 [l0, l1, l2, l3, l4, some (.int x0)] (.int x0 :: s) h) ∧
  (∀ (P : Nat × Nat) (l0 : Option Value) (l1 : Option Value) (l2 : Option Value) (l3 : Option Value) (l4 : Option Value) (l5 : Option Value) (s : List Value) (h : am_H), am_E P 8 37 [l0, l1, l2, l3, l4, l5] s h = am_E P 8 38 [l0, l1, l2, l3, l4, l5] (.int 2 :: s) h) ∧
  (∀ (P : Nat × Nat) (l0 : Option Value) (l1 : Option Value) (l2 : Option Value) (l4 : Option Value) (l5 : Option Value) (x0 : Int32) (s : List Value) (h : am_H), am_E P 8 38 [l0, l1, l2, some (.int x0), l4, l5] s h = am_E P 8 39 [l0, l1, l2, some (.int x0), l4, l5] (.int x0 :: s) h) ∧
  (∀ (P : Nat × Nat) (l0 : Option Value) (l1 : Option Value) (l2 : Option Value) (l3 : Option Value) (l4 : Option Value) (l5 : Option Value) (a0 : Nat) (x0 : Int32) (x1 : Int32) (x2 : Int32) (h : am_H), am_E P 8 39 [l0, l1, l2, l3, l4, l5] [.int x2, .int x1, .int x0, .ref a0] h = if am_cls h a0 = some 3 then (am_E P 27 0 [some (.ref a0), some (.int x0), some (.int x1), some (.int x2)] [] h).bind (fun q => am_E P 8 42 [l0, l1, l2, l3, l4, l5] (q.1.toList ++ []) q.2) else none) ∧
  (∀ (P : Nat × Nat) (l1 : Option Value) (l2 : Option Value) (l3 : Option Value) (l4 : Option Value) (l5 : Option Value) (a0 : Nat) (s : List Value) (h : am_H), am_E P 8 42 [some (.ref a0), l1, l2, l3, l4, l5] s h = am_E P 8 43 [some (.ref a0), l1, l2, l3, l4, l5] (.ref a0 :: s) h) ∧
  (∀ (P : Nat × Nat) (l1 : Option Value) (l2 : Option Value) (l3 : Option Value) (l4 : Option Value) (l5 : Option Value) (s : List Value) (h : am_H), am_E P 8 42 [some .null, l1, l2, l3, l4, l5] s h = am_E P 8 43 [some .null, l1, l2, l3, l4, l5] (.null :: s) h) ∧
  (∀ (P : Nat × Nat) (l0 : Option Value) (l1 : Option Value) (l2 : Option Value) (l3 : Option Value) (l4 : Option Value) (x0 : Int32) (s : List Value) (h : am_H), am_E P 8 43 [l0, l1, l2, l3, l4, some (.int x0)] s h = am_E P 8 45 [l0, l1, l2, l3, l4, some (.int x0)] (.int x0 :: s) h) ∧
  (∀ (P : Nat × Nat) (l0 : Option Value) (l1 : Option Value) (l2 : Option Value) (l3 : Option Value) (l4 : Option Value) (l5 : Option Value) (s : List Value) (h : am_H), am_E P 8 45 [l0, l1, l2, l3, l4, l5] s h = am_E P 8 46 [l0, l1, l2, l3, l4, l5] (.int 3 :: s) h) ∧
  (∀ (P : Nat × Nat) (l0 : Option Value) (l1 : Option Value) (l2 : Option Value) (l3 : Option Value) (l5 : Option Value) (x0 : Int32) (s : List Value) (h : am_H), am_E P 8 46 [l0, l1, l2, l3, some (.int x0), l5] s h = am_E P 8 48 [l0, l1, l2, l3, some (.int x0), l5] (.int x0 :: s) h) ∧
  (∀ (P : Nat × Nat) (l0 : Option Value) (l1 : Option Value) (l2 : Option Value) (l3 : Option Value) (l4 : Option Value) (l5 : Option Value) (a0 : Nat) (x0 : Int32) (x1 : Int32) (x2 : Int32) (h : am_H), am_E P 8 48 [l0, l1, l2, l3, l4, l5] [.int x2, .int x1, .int x0, .ref a0] h = if am_cls h a0 = some 3 then (am_E P 27 0 [some (.ref a0), some (.int x0), some (.int x1), some (.int x2)] [] h).bind (fun q => am_E P 8 51 [l0, l1, l2, l3, l4, l5] (q.1.toList ++ []) q.2) else none) ∧
  (∀ (P : Nat × Nat) (l0 : Option Value) (l1 : Option Value) (l2 : Option Value) (l3 : Option Value) (l4 : Option Value) (l5 : Option Value) (s : List Value) (h : am_H), am_E P 8 51 [l0, l1, l2, l3, l4, l5] s h = am_E P 8 52 [l0, l1, l2, l3, l4, l5] (.int 1 :: s) h) ∧
  (∀ (P : Nat × Nat) (l0 : Option Value) (l1 : Option Value) (l2 : Option Value) (l3 : Option Value) (l4 : Option Value) (l5 : Option Value) (x0 : Int32) (h : am_H), am_E P 8 52 [l0, l1, l2, l3, l4, l5] [.int x0] h = if x0 = 0 ∨ x0 = 1 then some (some (.int x0), h) else none) :=
  ⟨fun _ _ _ _ _ _ _ _ _ => er_go rfl rfl,
  fun _ _ _ _ _ _ _ _ => er_go rfl rfl,
  fun _ _ _ _ _ _ _ _ _ => er_go rfl rfl,
  fun _ _ _ _ _ _ _ _ _ => er_go rfl rfl,
  fun _ _ _ _ _ _ _ _ _ _ _ => er_callV rfl rfl rfl rfl,
  fun _ _ _ _ _ _ _ _ _ _ => er_if_eq rfl,
  fun _ _ _ _ _ _ _ _ _ => er_go rfl rfl,
  fun _ _ _ _ _ _ _ _ _ => er_retZ rfl rfl,
  fun _ _ _ _ _ _ _ _ _ => er_go rfl rfl,
  fun _ _ _ _ _ _ _ _ => er_go rfl rfl,
  fun _ _ _ _ _ _ _ _ _ => er_callV rfl rfl rfl rfl,
  fun _ _ _ _ _ _ _ _ _ _ => er_go rfl rfl,
  fun _ _ _ _ _ _ _ _ _ => er_go rfl rfl,
  fun _ _ _ _ _ _ _ _ => er_go rfl rfl,
  fun _ _ _ _ _ _ _ _ _ => er_go rfl rfl,
  fun _ _ _ _ _ _ _ _ _ => er_go rfl rfl,
  fun _ _ _ _ _ _ _ _ _ => er_go rfl rfl,
  fun _ _ _ _ _ _ _ _ _ _ _ _ => er_callV rfl rfl rfl rfl,
  fun _ _ _ _ _ _ _ _ _ => er_go rfl rfl,
  fun _ _ _ _ _ _ _ _ => er_go rfl rfl,
  fun _ _ _ _ _ _ _ _ _ => er_go rfl rfl,
  fun _ _ _ _ _ _ _ _ _ => er_go rfl rfl,
  fun _ _ _ _ _ _ _ _ _ => er_go rfl rfl,
  fun _ _ _ _ _ _ _ _ _ _ _ _ => er_callV rfl rfl rfl rfl,
  fun _ _ _ _ _ _ _ _ _ => er_go rfl rfl,
  fun _ _ _ _ _ _ _ _ => er_go rfl rfl,
  fun _ _ _ _ _ _ _ _ _ => er_go rfl rfl,
  fun _ _ _ _ _ _ _ _ _ => er_go rfl rfl,
  fun _ _ _ _ _ _ _ _ _ => er_go rfl rfl,
  fun _ _ _ _ _ _ _ _ _ _ _ _ => er_callV rfl rfl rfl rfl,
  fun _ _ _ _ _ _ _ _ _ => er_go rfl rfl,
  fun _ _ _ _ _ _ _ _ => er_go rfl rfl,
  fun _ _ _ _ _ _ _ _ _ => er_go rfl rfl,
  fun _ _ _ _ _ _ _ _ _ => er_go rfl rfl,
  fun _ _ _ _ _ _ _ _ _ => er_go rfl rfl,
  fun _ _ _ _ _ _ _ _ _ _ _ _ => er_callV rfl rfl rfl rfl,
  fun _ _ _ _ _ _ _ _ _ => er_go rfl rfl,
  fun _ _ _ _ _ _ _ _ _ => er_retZ rfl rfl⟩
/-- TwoStepOutputs$Lines.isThere(II)Z -/
theorem r9 : (∀ (P : Nat × Nat) (l1 : Option Value) (l2 : Option Value) (l3 : Option Value) (l4 : Option Value) (a0 : Nat) (s : List Value) (h : am_H), am_E P 9 0 [some (.ref a0), l1, l2, l3, l4] s h = am_E P 9 1 [some (.ref a0), l1, l2, l3, l4] (.ref a0 :: s) h) ∧
  (∀ (P : Nat × Nat) (l1 : Option Value) (l2 : Option Value) (l3 : Option Value) (l4 : Option Value) (s : List Value) (h : am_H), am_E P 9 0 [some .null, l1, l2, l3, l4] s h = am_E P 9 1 [some .null, l1, l2, l3, l4] (.null :: s) h) ∧
  (∀ (P : Nat × Nat) (l0 : Option Value) (l1 : Option Value) (l2 : Option Value) (l3 : Option Value) (l4 : Option Value) (a0 : Nat) (h : am_H), am_E P 9 1 [l0, l1, l2, l3, l4] [.ref a0] h = if am_cls h a0 = some 3 then (am_E P 24 0 [some (.ref a0)] [] h).bind (fun q => am_E P 9 4 [l0, l1, l2, l3, l4] (q.1.toList ++ []) q.2) else none) ∧
  (∀ (P : Nat × Nat) (l0 : Option Value) (l1 : Option Value) (l2 : Option Value) (l3 : Option Value) (l4 : Option Value) (s : List Value) (h : am_H), am_E P 9 4 [l0, l1, l2, l3, l4] s h = am_E P 9 5 [l0, l1, l2, l3, l4] (.int 1 :: s) h) ∧
  (∀ (P : Nat × Nat) (l0 : Option Value) (l1 : Option Value) (l2 : Option Value) (l3 : Option Value) (l4 : Option Value) (x0 : Int32) (x1 : Int32) (s : List Value) (h : am_H), am_E P 9 5 [l0, l1, l2, l3, l4] (.int x1 :: .int x0 :: s) h = am_E P 9 6 [l0, l1, l2, l3, l4] (.int (x0 - x1) :: s) h) ∧
  (∀ (P : Nat × Nat) (l0 : Option Value) (l1 : Option Value) (l2 : Option Value) (l3 : Option Value) (l4 : Option Value) (x0 : Int32) (s : List Value) (h : am_H), am_E P 9 6 [l0, l1, l2, l3, l4] (.int x0 :: s) h = am_E P 9 7 [l0, l1, l2, some (.int x0), l4] s h) ∧
  (∀ (P : Nat × Nat) (l0 : Option Value) (l1 : Option Value) (l2 : Option Value) (l3 : Option Value) (l4 : Option Value) (x0 : Int32) (s : List Value) (h : am_H), am_E P 9 8 [l0, l1, l2, l3, l4] (.int x0 :: s) h = if x0 < 0 then am_E P 9 51 [l0, l1, l2, l3, l4] s h else am_E P 9 11 [l0, l1, l2, l3, l4] s h) ∧
  (∀ (P : Nat × Nat) (l1 : Option Value) (l2 : Option Value) (l3 : Option Value) (l4 : Option Value) (a0 : Nat) (s : List Value) (h : am_H), am_E P 9 11 [some (.ref a0), l1, l2, l3, l4] s h = am_E P 9 12 [some (.ref a0), l1, l2, l3, l4] (.ref a0 :: s) h) ∧
  (∀ (P : Nat × Nat) (l1 : Option Value) (l2 : Option Value) (l3 : Option Value) (l4 : Option Value) (s : List Value) (h : am_H), am_E P 9 11 [some .null, l1, l2, l3, l4] s h = am_E P 9 12 [some .null, l1, l2, l3, l4] (.null :: s) h) ∧
  (∀ (P : Nat × Nat) (l0 : Option Value) (l1 : Option Value) (l2 : Option Value) (l4 : Option Value) (x0 : Int32) (s : List Value) (h : am_H), am_E P 9 12 [l0, l1, l2, some (.int x0), l4] s h = am_E P 9 13 [l0, l1, l2, some (.int x0), l4] (.int x0 :: s) h) ∧
  (∀ (P : Nat × Nat) (l0 : Option Value) (l1 : Option Value) (l2 : Option Value) (l3 : Option Value) (l4 : Option Value) (s : List Value) (h : am_H), am_E P 9 13 [l0, l1, l2, l3, l4] s h = am_E P 9 14 [l0, l1, l2, l3, l4] (.int 2 :: s) h) ∧
  (∀ (P : Nat × Nat) (l0 : Option Value) (l1 : Option Value) (l2 : Option Value) (l3 : Option Value) (l4 : Option Value) (a0 : Nat) (x0 : Int32) (x1 : Int32) (h : am_H), am_E P 9 14 [l0, l1, l2, l3, l4] [.int x1, .int x0, .ref a0] h = if am_cls h a0 = some 3 then (am_E P 26 0 [some (.ref a0), some (.int x0), some (.int x1)] [] h).bind (fun q => am_E P 9 17 [l0, l1, l2, l3, l4] (q.1.toList ++ []) q.2) else none) ∧
  (∀ (P : Nat × Nat) (l0 : Option Value) (l1 : Option Value) (l2 : Option Value) (l3 : Option Value) (l4 : Option Value) (x0 : Int32) (s : List Value) (h : am_H), am_E P 9 17 [l0, l1, l2, l3, l4] (.int x0 :: s) h = am_E P 9 19 [l0, l1, l2, l3, some (.int x0)] s h) ∧
  (∀ (P : Nat × Nat) (l0 : Option Value) (l1 : Option Value) (l2 : Option Value) (l3 : Option Value) (x0 : Int32) (s : List Value) (h : am_H), am_E P 9 19 [l0, l1, l2, l3, some (.int x0)] s h = am_E P 9 21 [l0, l1, l2, l3, some (.int x0)] (.int x0 :: s) h) ∧
  (∀ (P : Nat × Nat) (l0 : Option Value) (l2 : Option Value) (l3 : Option Value) (l4 : Option Value) (x0 : Int32) (s : List Value) (h : am_H), am_E P 9 21 [l0, some (.int x0), l2, l3, l4] s h = am_E P 9 22 [l0, some (.int x0), l2, l3, l4] (.int x0 :: s) h) ∧
  (∀ (P : Nat × Nat) (l0 : Option Value) (l1 : Option Value) (l2 : Option Value) (l3 : Option Value) (l4 : Option Value) (x0 : Int32) (x1 : Int32) (s : List Value) (h : am_H), am_E P 9 22 [l0, l1, l2, l3, l4] (.int x1 :: .int x0 :: s) h = if x0 = x1 then am_E P 9 25 [l0, l1, l2, l3, l4] s h else am_E P 9 37 [l0, l1, l2, l3, l4] s h) ∧
  (∀ (P : Nat × Nat) (l1 : Option Value) (l2 : Option Value) (l3 : Option Value) (l4 : Option Value) (a0 : Nat) (s : List Value) (h : am_H), am_E P 9 25 [some (.ref a0), l1, l2, l3, l4] s h = am_E P 9 26 [some (.ref a0), l1, l2, l3, l4] (.ref a0 :: s) h) ∧
  (∀ (P : Nat × Nat) (l1 : Option Value) (l2 : Option Value) (l3 : Option Value) (l4 : Option Value) (s : List Value) (h : am_H), am_E P 9 25 [some .null, l1, l2, l3, l4] s h = am_E P 9 26 [some .null, l1, l2, l3, l4] (.null :: s) h) ∧
  (∀ (P : Nat × Nat) (l0 : Option Value) (l1 : Option Value) (l2 : Option Value) (l4 : Option Value) (x0 : Int32) (s : List Value) (h : am_H), am_E P 9 26 [l0, l1, l2, some (.int x0), l4] s h = am_E P 9 27 [l0, l1, l2, some (.int x0), l4] (.int x0 :: s) h) ∧
  (∀ (P : Nat × Nat) (l0 : Option Value) (l1 : Option Value) (l2 : Option Value) (l3 : Option Value) (l4 : Option Value) (s : List Value) (h : am_H), am_E P 9 27 [l0, l1, l2, l3, l4] s h = am_E P 9 28 [l0, l1, l2, l3, l4] (.int 3 :: s) h) ∧
  (∀ (P : Nat × Nat) (l0 : Option Value) (l1 : Option Value) (l2 : Option Value) (l3 : Option Value) (l4 : Option Value) (a0 : Nat) (x0 : Int32) (x1 : Int32) (h : am_H), am_E P 9 28 [l0, l1, l2, l3, l4] [.int x1, .int x0, .ref a0] h = if am_cls h a0 = some 3 then (am_E P 26 0 [some (.ref a0), some (.int x0), some (.int x1)] [] h).bind (fun q => am_E P 9 31 [l0, l1, l2, l3, l4] (q.1.toList ++ []) q.2) else none) ∧
  (∀ (P : Nat × Nat) (l0 : Option Value) (l1 : Option Value) (l3 : Option Value) (l4 : Option Value) (x0 : Int32) (s : List Value) (h : am_H), am_E P 9 31 [l0, l1, some (.int x0), l3, l4] s h = am_E P 9 32 [l0, l1, some (.int x0), l3, l4] (.int x0 :: s) h) ∧
  (∀ (P : Nat × Nat) (l0 : Option Value) (l1 : Option Value) (l2 : Option Value) (l3 : Option Value) (l4 : Option Value) (x0 : Int32) (x1 : Int32) (s : List Value) (h : am_H), am_E P 9 32 [l0, l1, l2, l3, l4] (.int x1 :: .int x0 :: s) h = if x0 = x1 then am_E P 9 35 [l0, l1, l2, l3, l4] s h else am_E P 9 37 [l0, l1, l2, l3, l4] s h) ∧
  (∀ (P : Nat × Nat) (l0 : Option Value) (l1 : Option Value) (l2 : Option Value) (l3 : Option Value) (l4 : Option Value) (s : List Value) (h : am_H), am_E P 9 35 [l0, l1, l2, l3, l4] s h = am_E P 9 36 [l0, l1, l2, l3, l4] (.int 1 :: s) h) ∧
  (∀ (P : Nat × Nat) (l0 : Option Value) (l1 : Option Value) (l2 : Option Value) (l3 : Option Value) (l4 : Option Value) (x0 : Int32) (h : am_H), am_E P 9 36 [l0, l1, l2, l3, l4] [.int x0] h = if x0 = 0 ∨ x0 = 1 then some (some (.int x0), h) else none) ∧
  (∀ (P : Nat × Nat) (l0 : Option Value) (l1 : Option Value) (l2 : Option Value) (l3 : Option Value) (x0 : Int32) (s : List Value) (h : am_H), am_E P 9 37 [l0, l1, l2, l3, some (.int x0)] s h = am_E P 9 39 [l0, l1, l2, l3, some (.int x0)] (.int x0 :: s) h) ∧
  (∀ (P : Nat × Nat) (l0 : Option Value) (l2 : Option Value) (l3 : Option Value) (l4 : Option Value) (x0 : Int32) (s : List Value) (h : am_H), am_E P 9 39 [l0, some (.int x0), l2, l3, l4] s h = am_E P 9 40 [l0, some (.int x0), l2, l3, l4] (.int x0 :: s) h) ∧
  (∀ (P : Nat × Nat) (l0 : Option Value) (l1 : Option Value) (l2 : Option Value) (l3 : Option Value) (l4 : Option Value) (x0 : Int32) (x1 : Int32) (s : List Value) (h : am_H), am_E P 9 40 [l0, l1, l2, l3, l4] (.int x1 :: .int x0 :: s) h = if x1 ≤ x0 then am_E P 9 45 [l0, l1, l2, l3, l4] s h else am_E P 9 43 [l0, l1, l2, l3, l4] s h) ∧
  (∀ (P : Nat × Nat) (l0 : Option Value) (l1 : Option Value) (l2 : Option Value) (l3 : Option Value) (l4 : Option Value) (s : List Value) (h : am_H), am_E P 9 43 [l0, l1, l2, l3, l4] s h = am_E P 9 44 [l0, l1, l2, l3, l4] (.int 0 :: s) h) ∧
  (∀ (P : Nat × Nat) (l0 : Option Value) (l1 : Option Value) (l2 : Option Value) (l3 : Option Value) (l4 : Option Value) (x0 : Int32) (h : am_H), am_E P 9 44 [l0, l1, l2, l3, l4] [.int x0] h = if x0 = 0 ∨ x0 = 1 then some (some (.int x0), h) else none) ∧
  (∀ (P : Nat × Nat) (l0 : Option Value) (l1 : Option Value) (l2 : Option Value) (l4 : Option Value) (x0 : Int32) (s : List Value) (h : am_H), am_E P 9 45 [l0, l1, l2, some (.int x0), l4] s h = am_E P 9 48 [l0, l1, l2, some (.int (x0 + (-1))), l4] s h) ∧
  (∀ (P : Nat × Nat) (l0 : Option Value) (l1 : Option Value) (l2 : Option Value) (l3 : Option Value) (l4 : Option Value) (s : List Value) (h : am_H), am_E P 9 48 [l0, l1, l2, l3, l4] s h = am_E P 9 7 [l0, l1, l2, l3, l4] s h) ∧
  (∀ (P : Nat × Nat) (l0 : Option Value) (l1 : Option Value) (l2 : Option Value) (l3 : Option Value) (l4 : Option Value) (s : List Value) (h : am_H), am_E P 9 51 [l0, l1, l2, l3, l4] s h = am_E P 9 52 [l0, l1, l2, l3, l4] (.int 0 :: s) h) ∧
  (∀ (P : Nat × Nat) (l0 : Option Value) (l1 : Option Value) (l2 : Option Value) (l3 : Option Value) (l4 : Option Value) (x0 : Int32) (h : am_H), am_E P 9 52 [l0, l1, l2, l3, l4] [.int x0] h = if x0 = 0 ∨ x0 = 1 then some (some (.int x0), h) else none) :=
  ⟨fun _ _ _ _ _ _ _ _ => er_go rfl rfl,
  fun _ _ _ _ _ _ _ => er_go rfl rfl,
  fun _ _ _ _ _ _ _ _ => er_callV rfl rfl rfl rfl,
  fun _ _ _ _ _ _ _ _ => er_go rfl rfl,
  fun _ _ _ _ _ _ _ _ _ _ => er_go rfl rfl,
  fun _ _ _ _ _ _ _ _ _ => er_go rfl rfl,
  fun _ _ _ _ _ _ _ _ _ => er_if_lt rfl,
  fun _ _ _ _ _ _ _ _ => er_go rfl rfl,
  fun _ _ _ _ _ _ _ => er_go rfl rfl,
  fun _ _ _ _ _ _ _ _ => er_go rfl rfl,
  fun _ _ _ _ _ _ _ _ => er_go rfl rfl,
  fun _ _ _ _ _ _ _ _ _ _ => er_callV rfl rfl rfl rfl,
  fun _ _ _ _ _ _ _ _ _ => er_go rfl rfl,
  fun _ _ _ _ _ _ _ _ => er_go rfl rfl,
  fun _ _ _ _ _ _ _ _ => er_go rfl rfl,
  fun _ _ _ _ _ _ _ _ _ _ => er_ic_ne rfl,
  fun _ _ _ _ _ _ _ _ => er_go rfl rfl,
  fun _ _ _ _ _ _ _ => er_go rfl rfl,
  fun _ _ _ _ _ _ _ _ => er_go rfl rfl,
  fun _ _ _ _ _ _ _ _ => er_go rfl rfl,
  fun _ _ _ _ _ _ _ _ _ _ => er_callV rfl rfl rfl rfl,
  fun _ _ _ _ _ _ _ _ => er_go rfl rfl,
  fun _ _ _ _ _ _ _ _ _ _ => er_ic_ne rfl,
  fun _ _ _ _ _ _ _ _ => er_go rfl rfl,
  fun _ _ _ _ _ _ _ _ => er_retZ rfl rfl,
  fun _ _ _ _ _ _ _ _ => er_go rfl rfl,
  fun _ _ _ _ _ _ _ _ => er_go rfl rfl,
  fun _ _ _ _ _ _ _ _ _ _ => er_ic_ge rfl,
  fun _ _ _ _ _ _ _ _ => er_go rfl rfl,
  fun _ _ _ _ _ _ _ _ => er_retZ rfl rfl,
  fun _ _ _ _ _ _ _ _ => er_go rfl rfl,
  fun _ _ _ _ _ _ _ _ => er_go rfl rfl,
  fun _ _ _ _ _ _ _ _ => er_go rfl rfl,
  fun _ _ _ _ _ _ _ _ => er_retZ rfl rfl⟩
theorem hd9_7 : ∀ (P : Nat × Nat) (l0 : Option Value) (l1 : Option Value) (l2 : Option Value) (l4 : Option Value) (x0 : Int32) (s : List Value) (h : am_H), am_E P 9 7 [l0, l1, l2, some (.int x0), l4] s h = am_E P 9 8 [l0, l1, l2, some (.int x0), l4] (.int x0 :: s) h := fun _ _ _ _ _ _ _ _ => er_go rfl rfl
/-- TwoStepOutputs$Output.<init>(II)V -/
theorem r10 : (∀ (P : Nat × Nat) (l1 : Option Value) (l2 : Option Value) (a0 : Nat) (s : List Value) (h : am_H), am_E P 10 0 [some (.ref a0), l1, l2] s h = am_E P 10 1 [some (.ref a0), l1, l2] (.ref a0 :: s) h) ∧
  (∀ (P : Nat × Nat) (l1 : Option Value) (l2 : Option Value) (s : List Value) (h : am_H), am_E P 10 0 [some .null, l1, l2] s h = am_E P 10 1 [some .null, l1, l2] (.null :: s) h) ∧
  (∀ (P : Nat × Nat) (l0 : Option Value) (l1 : Option Value) (l2 : Option Value) (a0 : Nat) (h : am_H), am_E P 10 1 [l0, l1, l2] [.ref a0] h = am_E P 10 4 [l0, l1, l2] [] h) ∧
  (∀ (P : Nat × Nat) (l1 : Option Value) (l2 : Option Value) (a0 : Nat) (s : List Value) (h : am_H), am_E P 10 4 [some (.ref a0), l1, l2] s h = am_E P 10 5 [some (.ref a0), l1, l2] (.ref a0 :: s) h) ∧
  (∀ (P : Nat × Nat) (l1 : Option Value) (l2 : Option Value) (s : List Value) (h : am_H), am_E P 10 4 [some .null, l1, l2] s h = am_E P 10 5 [some .null, l1, l2] (.null :: s) h) ∧
  (∀ (P : Nat × Nat) (l0 : Option Value) (l1 : Option Value) (l2 : Option Value) (s : List Value) (h : am_H), am_E P 10 5 [l0, l1, l2] s h = am_E P 10 7 [l0, l1, l2] (.int 20 :: s) h) ∧
  (∀ (P : Nat × Nat) (l0 : Option Value) (l1 : Option Value) (l2 : Option Value) (x0 : Int32) (s : List Value) (h : am_H), am_E P 10 7 [l0, l1, l2] (.int x0 :: s) h = if x0.toInt < 0 ∨ 1000000 < x0.toInt then none else am_E P 10 9 [l0, l1, l2] (.ref h.1 :: s) (ah_new h x0.toNatClampNeg (ac_I x0.toNatClampNeg (fun _ => 0)))) ∧
  (∀ (P : Nat × Nat) (l0 : Option Value) (l1 : Option Value) (l2 : Option Value) (a0 : Nat) (a1 : Nat) (s : List Value) (h : am_H), am_E P 10 9 [l0, l1, l2] (.ref a1 :: .ref a0 :: s) h = (am_p1 h a0 4 2 (.ref a1)).bind (fun h => am_E P 10 12 [l0, l1, l2] s h)) ∧
  (∀ (P : Nat × Nat) (l1 : Option Value) (l2 : Option Value) (a0 : Nat) (s : List Value) (h : am_H), am_E P 10 12 [some (.ref a0), l1, l2] s h = am_E P 10 13 [some (.ref a0), l1, l2] (.ref a0 :: s) h) ∧
  (∀ (P : Nat × Nat) (l1 : Option Value) (l2 : Option Value) (s : List Value) (h : am_H), am_E P 10 12 [some .null, l1, l2] s h = am_E P 10 13 [some .null, l1, l2] (.null :: s) h) ∧
  (∀ (P : Nat × Nat) (l0 : Option Value) (l1 : Option Value) (l2 : Option Value) (s : List Value) (h : am_H), am_E P 10 13 [l0, l1, l2] s h = am_E P 10 15 [l0, l1, l2] (.int 20 :: s) h) ∧
  (∀ (P : Nat × Nat) (l0 : Option Value) (l1 : Option Value) (l2 : Option Value) (x0 : Int32) (s : List Value) (h : am_H), am_E P 10 15 [l0, l1, l2] (.int x0 :: s) h = if x0.toInt < 0 ∨ 1000000 < x0.toInt then none else am_E P 10 17 [l0, l1, l2] (.ref h.1 :: s) (ah_new h x0.toNatClampNeg (ac_I x0.toNatClampNeg (fun _ => 0)))) ∧
  (∀ (P : Nat × Nat) (l0 : Option Value) (l1 : Option Value) (l2 : Option Value) (a0 : Nat) (a1 : Nat) (s : List Value) (h : am_H), am_E P 10 17 [l0, l1, l2] (.ref a1 :: .ref a0 :: s) h = (am_p1 h a0 4 3 (.ref a1)).bind (fun h => am_E P 10 20 [l0, l1, l2] s h)) ∧
  (∀ (P : Nat × Nat) (l1 : Option Value) (l2 : Option Value) (a0 : Nat) (s : List Value) (h : am_H), am_E P 10 20 [some (.ref a0), l1, l2] s h = am_E P 10 21 [some (.ref a0), l1, l2] (.ref a0 :: s) h) ∧
  (∀ (P : Nat × Nat) (l1 : Option Value) (l2 : Option Value) (s : List Value) (h : am_H), am_E P 10 20 [some .null, l1, l2] s h = am_E P 10 21 [some .null, l1, l2] (.null :: s) h) ∧
  (∀ (P : Nat × Nat) (l0 : Option Value) (l1 : Option Value) (l2 : Option Value) (s : List Value) (h : am_H), am_E P 10 21 [l0, l1, l2] s h = am_E P 10 22 [l0, l1, l2] (.int 0 :: s) h) ∧
  (∀ (P : Nat × Nat) (l0 : Option Value) (l1 : Option Value) (l2 : Option Value) (a0 : Nat) (x0 : Int32) (s : List Value) (h : am_H), am_E P 10 22 [l0, l1, l2] (.int x0 :: .ref a0 :: s) h = (am_p1 h a0 4 4 (.int x0)).bind (fun h => am_E P 10 25 [l0, l1, l2] s h)) ∧
  (∀ (P : Nat × Nat) (l1 : Option Value) (l2 : Option Value) (a0 : Nat) (s : List Value) (h : am_H), am_E P 10 25 [some (.ref a0), l1, l2] s h = am_E P 10 26 [some (.ref a0), l1, l2] (.ref a0 :: s) h) ∧
  (∀ (P : Nat × Nat) (l1 : Option Value) (l2 : Option Value) (s : List Value) (h : am_H), am_E P 10 25 [some .null, l1, l2] s h = am_E P 10 26 [some .null, l1, l2] (.null :: s) h) ∧
  (∀ (P : Nat × Nat) (l0 : Option Value) (l1 : Option Value) (l2 : Option Value) (s : List Value) (h : am_H), am_E P 10 26 [l0, l1, l2] s h = am_E P 10 29 [l0, l1, l2] (.ref h.1 :: s) (ah_new h 3 (ac_O 0 [.int 0, .null, .int 0]))) ∧
  (∀ (P : Nat × Nat) (l0 : Option Value) (l1 : Option Value) (l2 : Option Value) (a0 : Nat) (s : List Value) (h : am_H), am_E P 10 29 [l0, l1, l2] (.ref a0 :: s) h = am_E P 10 30 [l0, l1, l2] (.ref a0 :: .ref a0 :: s) h) ∧
  (∀ (P : Nat × Nat) (l0 : Option Value) (l1 : Option Value) (l2 : Option Value) (a0 : Nat) (v0 : Value) (v1 : Value) (h : am_H), am_E P 10 30 [l0, l1, l2] [.ref a0, v0, v1] h = (am_E P 115 0 [some (.ref a0)] [] h).bind (fun q => am_E P 10 33 [l0, l1, l2] (q.1.toList ++ [v0, v1]) q.2)) ∧
  (∀ (P : Nat × Nat) (l0 : Option Value) (l1 : Option Value) (l2 : Option Value) (a0 : Nat) (a1 : Nat) (s : List Value) (h : am_H), am_E P 10 33 [l0, l1, l2] (.ref a1 :: .ref a0 :: s) h = (am_p1 h a0 4 5 (.ref a1)).bind (fun h => am_E P 10 36 [l0, l1, l2] s h)) ∧
  (∀ (P : Nat × Nat) (l1 : Option Value) (l2 : Option Value) (a0 : Nat) (s : List Value) (h : am_H), am_E P 10 36 [some (.ref a0), l1, l2] s h = am_E P 10 37 [some (.ref a0), l1, l2] (.ref a0 :: s) h) ∧
  (∀ (P : Nat × Nat) (l1 : Option Value) (l2 : Option Value) (s : List Value) (h : am_H), am_E P 10 36 [some .null, l1, l2] s h = am_E P 10 37 [some .null, l1, l2] (.null :: s) h) ∧
  (∀ (P : Nat × Nat) (l0 : Option Value) (l1 : Option Value) (l2 : Option Value) (s : List Value) (h : am_H), am_E P 10 37 [l0, l1, l2] s h = am_E P 10 38 [l0, l1, l2] (.int 0 :: s) h) ∧
  (∀ (P : Nat × Nat) (l0 : Option Value) (l1 : Option Value) (l2 : Option Value) (a0 : Nat) (x0 : Int32) (s : List Value) (h : am_H), am_E P 10 38 [l0, l1, l2] (.int x0 :: .ref a0 :: s) h = (am_p1 h a0 4 6 (.int x0)).bind (fun h => am_E P 10 41 [l0, l1, l2] s h)) ∧
  (∀ (P : Nat × Nat) (l1 : Option Value) (l2 : Option Value) (a0 : Nat) (s : List Value) (h : am_H), am_E P 10 41 [some (.ref a0), l1, l2] s h = am_E P 10 42 [some (.ref a0), l1, l2] (.ref a0 :: s) h) ∧
  (∀ (P : Nat × Nat) (l1 : Option Value) (l2 : Option Value) (s : List Value) (h : am_H), am_E P 10 41 [some .null, l1, l2] s h = am_E P 10 42 [some .null, l1, l2] (.null :: s) h) ∧
  (∀ (P : Nat × Nat) (l0 : Option Value) (l1 : Option Value) (l2 : Option Value) (s : List Value) (h : am_H), am_E P 10 42 [l0, l1, l2] s h = am_E P 10 43 [l0, l1, l2] (.int 0 :: s) h) ∧
  (∀ (P : Nat × Nat) (l0 : Option Value) (l1 : Option Value) (l2 : Option Value) (a0 : Nat) (x0 : Int32) (s : List Value) (h : am_H), am_E P 10 43 [l0, l1, l2] (.int x0 :: .ref a0 :: s) h = (am_p1 h a0 4 7 (.int x0)).bind (fun h => am_E P 10 46 [l0, l1, l2] s h)) ∧
  (∀ (P : Nat × Nat) (l1 : Option Value) (l2 : Option Value) (a0 : Nat) (s : List Value) (h : am_H), am_E P 10 46 [some (.ref a0), l1, l2] s h = am_E P 10 47 [some (.ref a0), l1, l2] (.ref a0 :: s) h) ∧
  (∀ (P : Nat × Nat) (l1 : Option Value) (l2 : Option Value) (s : List Value) (h : am_H), am_E P 10 46 [some .null, l1, l2] s h = am_E P 10 47 [some .null, l1, l2] (.null :: s) h) ∧
  (∀ (P : Nat × Nat) (l0 : Option Value) (l1 : Option Value) (l2 : Option Value) (s : List Value) (h : am_H), am_E P 10 47 [l0, l1, l2] s h = am_E P 10 50 [l0, l1, l2] (.ref h.1 :: s) (ah_new h 3 (ac_O 3 [.int 0, .null, .int 0]))) ∧
  (∀ (P : Nat × Nat) (l0 : Option Value) (l1 : Option Value) (l2 : Option Value) (a0 : Nat) (s : List Value) (h : am_H), am_E P 10 50 [l0, l1, l2] (.ref a0 :: s) h = am_E P 10 51 [l0, l1, l2] (.ref a0 :: .ref a0 :: s) h) ∧
  (∀ (P : Nat × Nat) (l0 : Option Value) (l1 : Option Value) (l2 : Option Value) (a0 : Nat) (v0 : Value) (v1 : Value) (h : am_H), am_E P 10 51 [l0, l1, l2] [.ref a0, v0, v1] h = (am_E P 7 0 [some (.ref a0)] [] h).bind (fun q => am_E P 10 54 [l0, l1, l2] (q.1.toList ++ [v0, v1]) q.2)) ∧
  (∀ (P : Nat × Nat) (l0 : Option Value) (l1 : Option Value) (l2 : Option Value) (a0 : Nat) (a1 : Nat) (s : List Value) (h : am_H), am_E P 10 54 [l0, l1, l2] (.ref a1 :: .ref a0 :: s) h = (am_p1 h a0 4 8 (.ref a1)).bind (fun h => am_E P 10 57 [l0, l1, l2] s h)) ∧
  (∀ (P : Nat × Nat) (l1 : Option Value) (l2 : Option Value) (a0 : Nat) (s : List Value) (h : am_H), am_E P 10 57 [some (.ref a0), l1, l2] s h = am_E P 10 58 [some (.ref a0), l1, l2] (.ref a0 :: s) h) ∧
  (∀ (P : Nat × Nat) (l1 : Option Value) (l2 : Option Value) (s : List Value) (h : am_H), am_E P 10 57 [some .null, l1, l2] s h = am_E P 10 58 [some .null, l1, l2] (.null :: s) h) ∧
  (∀ (P : Nat × Nat) (l0 : Option Value) (l1 : Option Value) (l2 : Option Value) (s : List Value) (h : am_H), am_E P 10 58 [l0, l1, l2] s h = am_E P 10 61 [l0, l1, l2] (.ref h.1 :: s) (ah_new h 4 (ac_O 7 [.null, .null, .null, .int 0]))) ∧
  (∀ (P : Nat × Nat) (l0 : Option Value) (l1 : Option Value) (l2 : Option Value) (a0 : Nat) (s : List Value) (h : am_H), am_E P 10 61 [l0, l1, l2] (.ref a0 :: s) h = am_E P 10 62 [l0, l1, l2] (.ref a0 :: .ref a0 :: s) h) ∧
  (∀ (P : Nat × Nat) (l0 : Option Value) (l1 : Option Value) (l2 : Option Value) (a0 : Nat) (v0 : Value) (v1 : Value) (h : am_H), am_E P 10 62 [l0, l1, l2] [.ref a0, v0, v1] h = (am_E P 29 0 [some (.ref a0)] [] h).bind (fun q => am_E P 10 65 [l0, l1, l2] (q.1.toList ++ [v0, v1]) q.2)) ∧
  (∀ (P : Nat × Nat) (l0 : Option Value) (l1 : Option Value) (l2 : Option Value) (a0 : Nat) (a1 : Nat) (s : List Value) (h : am_H), am_E P 10 65 [l0, l1, l2] (.ref a1 :: .ref a0 :: s) h = (am_p1 h a0 4 9 (.ref a1)).bind (fun h => am_E P 10 68 [l0, l1, l2] s h)) ∧
  (∀ (P : Nat × Nat) (l1 : Option Value) (l2 : Option Value) (a0 : Nat) (s : List Value) (h : am_H), am_E P 10 68 [some (.ref a0), l1, l2] s h = am_E P 10 69 [some (.ref a0), l1, l2] (.ref a0 :: s) h) ∧
  (∀ (P : Nat × Nat) (l1 : Option Value) (l2 : Option Value) (s : List Value) (h : am_H), am_E P 10 68 [some .null, l1, l2] s h = am_E P 10 69 [some .null, l1, l2] (.null :: s) h) ∧
  (∀ (P : Nat × Nat) (l0 : Option Value) (l2 : Option Value) (x0 : Int32) (s : List Value) (h : am_H), am_E P 10 69 [l0, some (.int x0), l2] s h = am_E P 10 70 [l0, some (.int x0), l2] (.int x0 :: s) h) ∧
  (∀ (P : Nat × Nat) (l0 : Option Value) (l1 : Option Value) (l2 : Option Value) (a0 : Nat) (x0 : Int32) (s : List Value) (h : am_H), am_E P 10 70 [l0, l1, l2] (.int x0 :: .ref a0 :: s) h = (am_p1 h a0 4 0 (.int x0)).bind (fun h => am_E P 10 73 [l0, l1, l2] s h)) ∧
  (∀ (P : Nat × Nat) (l1 : Option Value) (l2 : Option Value) (a0 : Nat) (s : List Value) (h : am_H), am_E P 10 73 [some (.ref a0), l1, l2] s h = am_E P 10 74 [some (.ref a0), l1, l2] (.ref a0 :: s) h) ∧
  (∀ (P : Nat × Nat) (l1 : Option Value) (l2 : Option Value) (s : List Value) (h : am_H), am_E P 10 73 [some .null, l1, l2] s h = am_E P 10 74 [some .null, l1, l2] (.null :: s) h) ∧
  (∀ (P : Nat × Nat) (l0 : Option Value) (l1 : Option Value) (x0 : Int32) (s : List Value) (h : am_H), am_E P 10 74 [l0, l1, some (.int x0)] s h = am_E P 10 75 [l0, l1, some (.int x0)] (.int x0 :: s) h) ∧
  (∀ (P : Nat × Nat) (l0 : Option Value) (l1 : Option Value) (l2 : Option Value) (a0 : Nat) (x0 : Int32) (s : List Value) (h : am_H), am_E P 10 75 [l0, l1, l2] (.int x0 :: .ref a0 :: s) h = (am_p1 h a0 4 1 (.int x0)).bind (fun h => am_E P 10 78 [l0, l1, l2] s h)) ∧
  (∀ (P : Nat × Nat) (l0 : Option Value) (l1 : Option Value) (l2 : Option Value) (h : am_H), am_E P 10 78 [l0, l1, l2] [] h = some (none, h)) :=
  ⟨fun _ _ _ _ _ _ => er_go rfl rfl,
  fun _ _ _ _ _ => er_go rfl rfl,
  fun _ _ _ _ _ _ => er_go rfl rfl,
  fun _ _ _ _ _ _ => er_go rfl rfl,
  fun _ _ _ _ _ => er_go rfl rfl,
  fun _ _ _ _ _ _ => er_go rfl rfl,
  fun _ _ _ _ _ _ _ => er_newa rfl rfl,
  fun _ _ _ _ _ _ _ _ => er_put1 rfl rfl,
  fun _ _ _ _ _ _ => er_go rfl rfl,
  fun _ _ _ _ _ => er_go rfl rfl,
  fun _ _ _ _ _ _ => er_go rfl rfl,
  fun _ _ _ _ _ _ _ => er_newa rfl rfl,
  fun _ _ _ _ _ _ _ _ => er_put1 rfl rfl,
  fun _ _ _ _ _ _ => er_go rfl rfl,
  fun _ _ _ _ _ => er_go rfl rfl,
  fun _ _ _ _ _ _ => er_go rfl rfl,
  fun _ _ _ _ _ _ _ _ => er_put1 rfl rfl,
  fun _ _ _ _ _ _ => er_go rfl rfl,
  fun _ _ _ _ _ => er_go rfl rfl,
  fun _ _ _ _ _ _ => er_go rfl rfl,
  fun _ _ _ _ _ _ _ => er_go rfl rfl,
  fun _ _ _ _ _ _ _ _ => er_callS rfl rfl rfl,
  fun _ _ _ _ _ _ _ _ => er_put1 rfl rfl,
  fun _ _ _ _ _ _ => er_go rfl rfl,
  fun _ _ _ _ _ => er_go rfl rfl,
  fun _ _ _ _ _ _ => er_go rfl rfl,
  fun _ _ _ _ _ _ _ _ => er_put1 rfl rfl,
  fun _ _ _ _ _ _ => er_go rfl rfl,
  fun _ _ _ _ _ => er_go rfl rfl,
  fun _ _ _ _ _ _ => er_go rfl rfl,
  fun _ _ _ _ _ _ _ _ => er_put1 rfl rfl,
  fun _ _ _ _ _ _ => er_go rfl rfl,
  fun _ _ _ _ _ => er_go rfl rfl,
  fun _ _ _ _ _ _ => er_go rfl rfl,
  fun _ _ _ _ _ _ _ => er_go rfl rfl,
  fun _ _ _ _ _ _ _ _ => er_callS rfl rfl rfl,
  fun _ _ _ _ _ _ _ _ => er_put1 rfl rfl,
  fun _ _ _ _ _ _ => er_go rfl rfl,
  fun _ _ _ _ _ => er_go rfl rfl,
  fun _ _ _ _ _ _ => er_go rfl rfl,
  fun _ _ _ _ _ _ _ => er_go rfl rfl,
  fun _ _ _ _ _ _ _ _ => er_callS rfl rfl rfl,
  fun _ _ _ _ _ _ _ _ => er_put1 rfl rfl,
  fun _ _ _ _ _ _ => er_go rfl rfl,
  fun _ _ _ _ _ => er_go rfl rfl,
  fun _ _ _ _ _ _ => er_go rfl rfl,
  fun _ _ _ _ _ _ _ _ => er_put1 rfl rfl,
  fun _ _ _ _ _ _ => er_go rfl rfl,
  fun _ _ _ _ _ => er_go rfl rfl,
  fun _ _ _ _ _ _ => er_go rfl rfl,
  fun _ _ _ _ _ _ _ _ => er_put1 rfl rfl,
  fun _ _ _ _ _ => er_ret rfl rfl⟩
/-- TwoStepOutputs$Output.takeRow(II)Z -/
theorem r11 : (∀ (P : Nat × Nat) (l1 : Option Value) (l2 : Option Value) (a0 : Nat) (s : List Value) (h : am_H), am_E P 11 0 [some (.ref a0), l1, l2] s h = am_E P 11 1 [some (.ref a0), l1, l2] (.ref a0 :: s) h) ∧
  (∀ (P : Nat × Nat) (l1 : Option Value) (l2 : Option Value) (s : List Value) (h : am_H), am_E P 11 0 [some .null, l1, l2] s h = am_E P 11 1 [some .null, l1, l2] (.null :: s) h) ∧
  (∀ (P : Nat × Nat) (l0 : Option Value) (l1 : Option Value) (l2 : Option Value) (a0 : Nat) (s : List Value) (h : am_H), am_E P 11 1 [l0, l1, l2] (.ref a0 :: s) h = (am_g1 h a0 4 4).bind (fun v => am_E P 11 4 [l0, l1, l2] (v :: s) h)) ∧
  (∀ (P : Nat × Nat) (l0 : Option Value) (l1 : Option Value) (l2 : Option Value) (s : List Value) (h : am_H), am_E P 11 4 [l0, l1, l2] s h = am_E P 11 6 [l0, l1, l2] (.int 20 :: s) h) ∧
  (∀ (P : Nat × Nat) (l0 : Option Value) (l1 : Option Value) (l2 : Option Value) (x0 : Int32) (x1 : Int32) (s : List Value) (h : am_H), am_E P 11 6 [l0, l1, l2] (.int x1 :: .int x0 :: s) h = if x0 < x1 then am_E P 11 11 [l0, l1, l2] s h else am_E P 11 9 [l0, l1, l2] s h) ∧
  (∀ (P : Nat × Nat) (l0 : Option Value) (l1 : Option Value) (l2 : Option Value) (s : List Value) (h : am_H), am_E P 11 9 [l0, l1, l2] s h = am_E P 11 10 [l0, l1, l2] (.int 0 :: s) h) ∧
  (∀ (P : Nat × Nat) (l0 : Option Value) (l1 : Option Value) (l2 : Option Value) (x0 : Int32) (h : am_H), am_E P 11 10 [l0, l1, l2] [.int x0] h = if x0 = 0 ∨ x0 = 1 then some (some (.int x0), h) else none) ∧
  (∀ (P : Nat × Nat) (l1 : Option Value) (l2 : Option Value) (a0 : Nat) (s : List Value) (h : am_H), am_E P 11 11 [some (.ref a0), l1, l2] s h = am_E P 11 12 [some (.ref a0), l1, l2] (.ref a0 :: s) h) ∧
  (∀ (P : Nat × Nat) (l1 : Option Value) (l2 : Option Value) (s : List Value) (h : am_H), am_E P 11 11 [some .null, l1, l2] s h = am_E P 11 12 [some .null, l1, l2] (.null :: s) h) ∧
  (∀ (P : Nat × Nat) (l0 : Option Value) (l1 : Option Value) (l2 : Option Value) (a0 : Nat) (s : List Value) (h : am_H), am_E P 11 12 [l0, l1, l2] (.ref a0 :: s) h = (am_g1 h a0 4 2).bind (fun v => am_E P 11 15 [l0, l1, l2] (v :: s) h)) ∧
  (∀ (P : Nat × Nat) (l1 : Option Value) (l2 : Option Value) (a0 : Nat) (s : List Value) (h : am_H), am_E P 11 15 [some (.ref a0), l1, l2] s h = am_E P 11 16 [some (.ref a0), l1, l2] (.ref a0 :: s) h) ∧
  (∀ (P : Nat × Nat) (l1 : Option Value) (l2 : Option Value) (s : List Value) (h : am_H), am_E P 11 15 [some .null, l1, l2] s h = am_E P 11 16 [some .null, l1, l2] (.null :: s) h) ∧
  (∀ (P : Nat × Nat) (l0 : Option Value) (l1 : Option Value) (l2 : Option Value) (a0 : Nat) (s : List Value) (h : am_H), am_E P 11 16 [l0, l1, l2] (.ref a0 :: s) h = (am_g1 h a0 4 4).bind (fun v => am_E P 11 19 [l0, l1, l2] (v :: s) h)) ∧
  (∀ (P : Nat × Nat) (l0 : Option Value) (l2 : Option Value) (x0 : Int32) (s : List Value) (h : am_H), am_E P 11 19 [l0, some (.int x0), l2] s h = am_E P 11 20 [l0, some (.int x0), l2] (.int x0 :: s) h) ∧
  (∀ (P : Nat × Nat) (l0 : Option Value) (l1 : Option Value) (l2 : Option Value) (x0 : Int32) (x1 : Int32) (a0 : Nat) (s : List Value) (h : am_H), am_E P 11 20 [l0, l1, l2] (.int x1 :: .int x0 :: .ref a0 :: s) h = (am_iast h a0 x0 x1).bind (fun h => am_E P 11 21 [l0, l1, l2] s h)) ∧
  (∀ (P : Nat × Nat) (l1 : Option Value) (l2 : Option Value) (a0 : Nat) (s : List Value) (h : am_H), am_E P 11 21 [some (.ref a0), l1, l2] s h = am_E P 11 22 [some (.ref a0), l1, l2] (.ref a0 :: s) h) ∧
  (∀ (P : Nat × Nat) (l1 : Option Value) (l2 : Option Value) (s : List Value) (h : am_H), am_E P 11 21 [some .null, l1, l2] s h = am_E P 11 22 [some .null, l1, l2] (.null :: s) h) ∧
  (∀ (P : Nat × Nat) (l0 : Option Value) (l1 : Option Value) (l2 : Option Value) (a0 : Nat) (s : List Value) (h : am_H), am_E P 11 22 [l0, l1, l2] (.ref a0 :: s) h = (am_g1 h a0 4 3).bind (fun v => am_E P 11 25 [l0, l1, l2] (v :: s) h)) ∧
  (∀ (P : Nat × Nat) (l1 : Option Value) (l2 : Option Value) (a0 : Nat) (s : List Value) (h : am_H), am_E P 11 25 [some (.ref a0), l1, l2] s h = am_E P 11 26 [some (.ref a0), l1, l2] (.ref a0 :: s) h) ∧
  (∀ (P : Nat × Nat) (l1 : Option Value) (l2 : Option Value) (s : List Value) (h : am_H), am_E P 11 25 [some .null, l1, l2] s h = am_E P 11 26 [some .null, l1, l2] (.null :: s) h) ∧
  (∀ (P : Nat × Nat) (l0 : Option Value) (l1 : Option Value) (l2 : Option Value) (a0 : Nat) (s : List Value) (h : am_H), am_E P 11 26 [l0, l1, l2] (.ref a0 :: s) h = (am_g1 h a0 4 4).bind (fun v => am_E P 11 29 [l0, l1, l2] (v :: s) h)) ∧
  (∀ (P : Nat × Nat) (l0 : Option Value) (l1 : Option Value) (x0 : Int32) (s : List Value) (h : am_H), am_E P 11 29 [l0, l1, some (.int x0)] s h = am_E P 11 30 [l0, l1, some (.int x0)] (.int x0 :: s) h) ∧
  (∀ (P : Nat × Nat) (l0 : Option Value) (l1 : Option Value) (l2 : Option Value) (x0 : Int32) (x1 : Int32) (a0 : Nat) (s : List Value) (h : am_H), am_E P 11 30 [l0, l1, l2] (.int x1 :: .int x0 :: .ref a0 :: s) h = (am_iast h a0 x0 x1).bind (fun h => am_E P 11 31 [l0, l1, l2] s h)) ∧
  (∀ (P : Nat × Nat) (l1 : Option Value) (l2 : Option Value) (a0 : Nat) (s : List Value) (h : am_H), am_E P 11 31 [some (.ref a0), l1, l2] s h = am_E P 11 32 [some (.ref a0), l1, l2] (.ref a0 :: s) h) ∧
  (∀ (P : Nat × Nat) (l1 : Option Value) (l2 : Option Value) (s : List Value) (h : am_H), am_E P 11 31 [some .null, l1, l2] s h = am_E P 11 32 [some .null, l1, l2] (.null :: s) h) ∧
  (∀ (P : Nat × Nat) (l0 : Option Value) (l1 : Option Value) (l2 : Option Value) (a0 : Nat) (s : List Value) (h : am_H), am_E P 11 32 [l0, l1, l2] (.ref a0 :: s) h = am_E P 11 33 [l0, l1, l2] (.ref a0 :: .ref a0 :: s) h) ∧
  (∀ (P : Nat × Nat) (l0 : Option Value) (l1 : Option Value) (l2 : Option Value) (a0 : Nat) (s : List Value) (h : am_H), am_E P 11 33 [l0, l1, l2] (.ref a0 :: s) h = (am_g1 h a0 4 4).bind (fun v => am_E P 11 36 [l0, l1, l2] (v :: s) h)) ∧
  (∀ (P : Nat × Nat) (l0 : Option Value) (l1 : Option Value) (l2 : Option Value) (s : List Value) (h : am_H), am_E P 11 36 [l0, l1, l2] s h = am_E P 11 37 [l0, l1, l2] (.int 1 :: s) h) ∧
  (∀ (P : Nat × Nat) (l0 : Option Value) (l1 : Option Value) (l2 : Option Value) (x0 : Int32) (x1 : Int32) (s : List Value) (h : am_H), am_E P 11 37 [l0, l1, l2] (.int x1 :: .int x0 :: s) h = am_E P 11 38 [l0, l1, l2] (.int (x0 + x1) :: s) h) ∧
  (∀ (P : Nat × Nat) (l0 : Option Value) (l1 : Option Value) (l2 : Option Value) (a0 : Nat) (x0 : Int32) (s : List Value) (h : am_H), am_E P 11 38 [l0, l1, l2] (.int x0 :: .ref a0 :: s) h = (am_p1 h a0 4 4 (.int x0)).bind (fun h => am_E P 11 41 [l0, l1, l2] s h)) ∧
  (∀ (P : Nat × Nat) (l0 : Option Value) (l1 : Option Value) (l2 : Option Value) (s : List Value) (h : am_H), am_E P 11 41 [l0, l1, l2] s h = am_E P 11 42 [l0, l1, l2] (.int 1 :: s) h) ∧
  (∀ (P : Nat × Nat) (l0 : Option Value) (l1 : Option Value) (l2 : Option Value) (x0 : Int32) (h : am_H), am_E P 11 42 [l0, l1, l2] [.int x0] h = if x0 = 0 ∨ x0 = 1 then some (some (.int x0), h) else none) :=
  ⟨fun _ _ _ _ _ _ => er_go rfl rfl,
  fun _ _ _ _ _ => er_go rfl rfl,
  fun _ _ _ _ _ _ _ => er_get1 rfl,
  fun _ _ _ _ _ _ => er_go rfl rfl,
  fun _ _ _ _ _ _ _ _ => er_ic_lt rfl,
  fun _ _ _ _ _ _ => er_go rfl rfl,
  fun _ _ _ _ _ _ => er_retZ rfl rfl,
  fun _ _ _ _ _ _ => er_go rfl rfl,
  fun _ _ _ _ _ => er_go rfl rfl,
  fun _ _ _ _ _ _ _ => er_get1 rfl,
  fun _ _ _ _ _ _ => er_go rfl rfl,
  fun _ _ _ _ _ => er_go rfl rfl,
  fun _ _ _ _ _ _ _ => er_get1 rfl,
  fun _ _ _ _ _ _ => er_go rfl rfl,
  fun _ _ _ _ _ _ _ _ _ => er_iast rfl,
  fun _ _ _ _ _ _ => er_go rfl rfl,
  fun _ _ _ _ _ => er_go rfl rfl,
  fun _ _ _ _ _ _ _ => er_get1 rfl,
  fun _ _ _ _ _ _ => er_go rfl rfl,
  fun _ _ _ _ _ => er_go rfl rfl,
  fun _ _ _ _ _ _ _ => er_get1 rfl,
  fun _ _ _ _ _ _ => er_go rfl rfl,
  fun _ _ _ _ _ _ _ _ _ => er_iast rfl,
  fun _ _ _ _ _ _ => er_go rfl rfl,
  fun _ _ _ _ _ => er_go rfl rfl,
  fun _ _ _ _ _ _ _ => er_go rfl rfl,
  fun _ _ _ _ _ _ _ => er_get1 rfl,
  fun _ _ _ _ _ _ => er_go rfl rfl,
  fun _ _ _ _ _ _ _ _ => er_go rfl rfl,
  fun _ _ _ _ _ _ _ _ => er_put1 rfl rfl,
  fun _ _ _ _ _ _ => er_go rfl rfl,
  fun _ _ _ _ _ _ => er_retZ rfl rfl⟩
/-- TwoStepOutputs$Output.partAt(I)LTwoStepOutputs$Part; -/
theorem r12 : (∀ (P : Nat × Nat) (l0 : Option Value) (x0 : Int32) (s : List Value) (h : am_H), am_E P 12 0 [l0, some (.int x0)] s h = am_E P 12 1 [l0, some (.int x0)] (.int x0 :: s) h) ∧
  (∀ (P : Nat × Nat) (l0 : Option Value) (l1 : Option Value) (x0 : Int32) (s : List Value) (h : am_H), am_E P 12 1 [l0, l1] (.int x0 :: s) h = if x0 < 0 then am_E P 12 15 [l0, l1] s h else am_E P 12 4 [l0, l1] s h) ∧
  (∀ (P : Nat × Nat) (l0 : Option Value) (x0 : Int32) (s : List Value) (h : am_H), am_E P 12 4 [l0, some (.int x0)] s h = am_E P 12 5 [l0, some (.int x0)] (.int x0 :: s) h) ∧
  (∀ (P : Nat × Nat) (l1 : Option Value) (a0 : Nat) (s : List Value) (h : am_H), am_E P 12 5 [some (.ref a0), l1] s h = am_E P 12 6 [some (.ref a0), l1] (.ref a0 :: s) h) ∧
  (∀ (P : Nat × Nat) (l1 : Option Value) (s : List Value) (h : am_H), am_E P 12 5 [some .null, l1] s h = am_E P 12 6 [some .null, l1] (.null :: s) h) ∧
  (∀ (P : Nat × Nat) (l0 : Option Value) (l1 : Option Value) (a0 : Nat) (s : List Value) (h : am_H), am_E P 12 6 [l0, l1] (.ref a0 :: s) h = (am_g1 h a0 4 5).bind (fun v => am_E P 12 9 [l0, l1] (v :: s) h)) ∧
  (∀ (P : Nat × Nat) (l0 : Option Value) (l1 : Option Value) (a0 : Nat) (v0 : Value) (h : am_H), am_E P 12 9 [l0, l1] [.ref a0, v0] h = if am_cls h a0 = some 0 then (am_E P 118 0 [some (.ref a0)] [] h).bind (fun q => am_E P 12 12 [l0, l1] (q.1.toList ++ [v0]) q.2) else none) ∧
  (∀ (P : Nat × Nat) (l0 : Option Value) (l1 : Option Value) (x0 : Int32) (x1 : Int32) (s : List Value) (h : am_H), am_E P 12 12 [l0, l1] (.int x1 :: .int x0 :: s) h = if x0 < x1 then am_E P 12 19 [l0, l1] s h else am_E P 12 15 [l0, l1] s h) ∧
  (∀ (P : Nat × Nat) (l0 : Option Value) (l1 : Option Value) (s : List Value) (h : am_H), am_E P 12 15 [l0, l1] s h = am_E P 12 16 [l0, l1] (.null :: s) h) ∧
  (∀ (P : Nat × Nat) (l0 : Option Value) (l1 : Option Value) (s : List Value) (h : am_H), am_E P 12 16 [l0, l1] s h = am_E P 12 30 [l0, l1] s h) ∧
  (∀ (P : Nat × Nat) (l1 : Option Value) (a0 : Nat) (s : List Value) (h : am_H), am_E P 12 19 [some (.ref a0), l1] s h = am_E P 12 20 [some (.ref a0), l1] (.ref a0 :: s) h) ∧
  (∀ (P : Nat × Nat) (l1 : Option Value) (s : List Value) (h : am_H), am_E P 12 19 [some .null, l1] s h = am_E P 12 20 [some .null, l1] (.null :: s) h) ∧
  (∀ (P : Nat × Nat) (l0 : Option Value) (l1 : Option Value) (a0 : Nat) (s : List Value) (h : am_H), am_E P 12 20 [l0, l1] (.ref a0 :: s) h = (am_g1 h a0 4 5).bind (fun v => am_E P 12 23 [l0, l1] (v :: s) h)) ∧
  (∀ (P : Nat × Nat) (l0 : Option Value) (x0 : Int32) (s : List Value) (h : am_H), am_E P 12 23 [l0, some (.int x0)] s h = am_E P 12 24 [l0, some (.int x0)] (.int x0 :: s) h) ∧
  (∀ (P : Nat × Nat) (l0 : Option Value) (l1 : Option Value) (a0 : Nat) (x0 : Int32) (h : am_H), am_E P 12 24 [l0, l1] [.int x0, .ref a0] h = if am_cls h a0 = some 0 then (am_E P 120 0 [some (.ref a0), some (.int x0)] [] h).bind (fun q => am_E P 12 27 [l0, l1] (q.1.toList ++ []) q.2) else none) ∧
  (∀ (P : Nat × Nat) (l0 : Option Value) (l1 : Option Value) (a0 : Nat) (s : List Value) (h : am_H), am_E P 12 27 [l0, l1] (.ref a0 :: s) h = if am_cls h a0 = some 5 then am_E P 12 30 [l0, l1] (.ref a0 :: s) h else none) ∧
  (∀ (P : Nat × Nat) (l0 : Option Value) (l1 : Option Value) (s : List Value) (h : am_H), am_E P 12 27 [l0, l1] (.null :: s) h = am_E P 12 30 [l0, l1] (.null :: s) h) ∧
  (∀ (P : Nat × Nat) (l0 : Option Value) (l1 : Option Value) (a0 : Nat) (h : am_H), am_E P 12 30 [l0, l1] [.ref a0] h = some (some (.ref a0), h)) ∧
  (∀ (P : Nat × Nat) (l0 : Option Value) (l1 : Option Value) (h : am_H), am_E P 12 30 [l0, l1] [.null] h = some (some .null, h)) :=
  ⟨fun _ _ _ _ _ => er_go rfl rfl,
  fun _ _ _ _ _ _ => er_if_lt rfl,
  fun _ _ _ _ _ => er_go rfl rfl,
  fun _ _ _ _ _ => er_go rfl rfl,
  fun _ _ _ _ => er_go rfl rfl,
  fun _ _ _ _ _ _ => er_get1 rfl,
  fun _ _ _ _ _ _ => er_callV rfl rfl rfl rfl,
  fun _ _ _ _ _ _ _ => er_ic_lt rfl,
  fun _ _ _ _ _ => er_go rfl rfl,
  fun _ _ _ _ _ => er_go rfl rfl,
  fun _ _ _ _ _ => er_go rfl rfl,
  fun _ _ _ _ => er_go rfl rfl,
  fun _ _ _ _ _ _ => er_get1 rfl,
  fun _ _ _ _ _ => er_go rfl rfl,
  fun _ _ _ _ _ _ => er_callV rfl rfl rfl rfl,
  fun _ _ _ _ _ _ => er_cast rfl,
  fun _ _ _ _ _ => er_go rfl rfl,
  fun _ _ _ _ _ => er_ret rfl rfl,
  fun _ _ _ _ => er_ret rfl rfl⟩
/-- TwoStepOutputs$Output.waitingParts()I -/
theorem r13 : (∀ (P : Nat × Nat) (l0 : Option Value) (l1 : Option Value) (l2 : Option Value) (s : List Value) (h : am_H), am_E P 13 0 [l0, l1, l2] s h = am_E P 13 1 [l0, l1, l2] (.int 0 :: s) h) ∧
  (∀ (P : Nat × Nat) (l0 : Option Value) (l1 : Option Value) (l2 : Option Value) (x0 : Int32) (s : List Value) (h : am_H), am_E P 13 1 [l0, l1, l2] (.int x0 :: s) h = am_E P 13 2 [l0, some (.int x0), l2] s h) ∧
  (∀ (P : Nat × Nat) (l0 : Option Value) (l1 : Option Value) (l2 : Option Value) (s : List Value) (h : am_H), am_E P 13 2 [l0, l1, l2] s h = am_E P 13 3 [l0, l1, l2] (.int 0 :: s) h) ∧
  (∀ (P : Nat × Nat) (l0 : Option Value) (l1 : Option Value) (l2 : Option Value) (x0 : Int32) (s : List Value) (h : am_H), am_E P 13 3 [l0, l1, l2] (.int x0 :: s) h = am_E P 13 4 [l0, l1, some (.int x0)] s h) ∧
  (∀ (P : Nat × Nat) (l1 : Option Value) (l2 : Option Value) (a0 : Nat) (s : List Value) (h : am_H), am_E P 13 5 [some (.ref a0), l1, l2] s h = am_E P 13 6 [some (.ref a0), l1, l2] (.ref a0 :: s) h) ∧
  (∀ (P : Nat × Nat) (l1 : Option Value) (l2 : Option Value) (s : List Value) (h : am_H), am_E P 13 5 [some .null, l1, l2] s h = am_E P 13 6 [some .null, l1, l2] (.null :: s) h) ∧
  (∀ (P : Nat × Nat) (l0 : Option Value) (l1 : Option Value) (l2 : Option Value) (a0 : Nat) (s : List Value) (h : am_H), am_E P 13 6 [l0, l1, l2] (.ref a0 :: s) h = (am_g1 h a0 4 5).bind (fun v => am_E P 13 9 [l0, l1, l2] (v :: s) h)) ∧
  (∀ (P : Nat × Nat) (l0 : Option Value) (l1 : Option Value) (l2 : Option Value) (a0 : Nat) (v0 : Value) (h : am_H), am_E P 13 9 [l0, l1, l2] [.ref a0, v0] h = if am_cls h a0 = some 0 then (am_E P 118 0 [some (.ref a0)] [] h).bind (fun q => am_E P 13 12 [l0, l1, l2] (q.1.toList ++ [v0]) q.2) else none) ∧
  (∀ (P : Nat × Nat) (l0 : Option Value) (l1 : Option Value) (l2 : Option Value) (x0 : Int32) (x1 : Int32) (s : List Value) (h : am_H), am_E P 13 12 [l0, l1, l2] (.int x1 :: .int x0 :: s) h = if x1 ≤ x0 then am_E P 13 42 [l0, l1, l2] s h else am_E P 13 15 [l0, l1, l2] s h) ∧
  (∀ (P : Nat × Nat) (l1 : Option Value) (l2 : Option Value) (a0 : Nat) (s : List Value) (h : am_H), am_E P 13 15 [some (.ref a0), l1, l2] s h = am_E P 13 16 [some (.ref a0), l1, l2] (.ref a0 :: s) h) ∧
  (∀ (P : Nat × Nat) (l1 : Option Value) (l2 : Option Value) (s : List Value) (h : am_H), am_E P 13 15 [some .null, l1, l2] s h = am_E P 13 16 [some .null, l1, l2] (.null :: s) h) ∧
  (∀ (P : Nat × Nat) (l0 : Option Value) (l1 : Option Value) (l2 : Option Value) (a0 : Nat) (s : List Value) (h : am_H), am_E P 13 16 [l0, l1, l2] (.ref a0 :: s) h = (am_g1 h a0 4 5).bind (fun v => am_E P 13 19 [l0, l1, l2] (v :: s) h)) ∧
  (∀ (P : Nat × Nat) (l0 : Option Value) (l1 : Option Value) (x0 : Int32) (s : List Value) (h : am_H), am_E P 13 19 [l0, l1, some (.int x0)] s h = am_E P 13 20 [l0, l1, some (.int x0)] (.int x0 :: s) h) ∧
  (∀ (P : Nat × Nat) (l0 : Option Value) (l1 : Option Value) (l2 : Option Value) (a0 : Nat) (x0 : Int32) (h : am_H), am_E P 13 20 [l0, l1, l2] [.int x0, .ref a0] h = if am_cls h a0 = some 0 then (am_E P 120 0 [some (.ref a0), some (.int x0)] [] h).bind (fun q => am_E P 13 23 [l0, l1, l2] (q.1.toList ++ []) q.2) else none) ∧
  (∀ (P : Nat × Nat) (l0 : Option Value) (l1 : Option Value) (l2 : Option Value) (a0 : Nat) (s : List Value) (h : am_H), am_E P 13 23 [l0, l1, l2] (.ref a0 :: s) h = if am_cls h a0 = some 5 then am_E P 13 26 [l0, l1, l2] (.ref a0 :: s) h else none) ∧
  (∀ (P : Nat × Nat) (l0 : Option Value) (l1 : Option Value) (l2 : Option Value) (s : List Value) (h : am_H), am_E P 13 23 [l0, l1, l2] (.null :: s) h = am_E P 13 26 [l0, l1, l2] (.null :: s) h) ∧
  (∀ (P : Nat × Nat) (l0 : Option Value) (l1 : Option Value) (l2 : Option Value) (a0 : Nat) (s : List Value) (h : am_H), am_E P 13 26 [l0, l1, l2] (.ref a0 :: s) h = (am_g1 h a0 5 4).bind (fun v => am_E P 13 29 [l0, l1, l2] (v :: s) h)) ∧
  (∀ (P : Nat × Nat) (l0 : Option Value) (l1 : Option Value) (l2 : Option Value) (s : List Value) (h : am_H), am_E P 13 29 [l0, l1, l2] s h = am_E P 13 30 [l0, l1, l2] (.int 1 :: s) h) ∧
  (∀ (P : Nat × Nat) (l0 : Option Value) (l1 : Option Value) (l2 : Option Value) (x0 : Int32) (x1 : Int32) (s : List Value) (h : am_H), am_E P 13 30 [l0, l1, l2] (.int x1 :: .int x0 :: s) h = if x0 = x1 then am_E P 13 33 [l0, l1, l2] s h else am_E P 13 36 [l0, l1, l2] s h) ∧
  (∀ (P : Nat × Nat) (l0 : Option Value) (l2 : Option Value) (x0 : Int32) (s : List Value) (h : am_H), am_E P 13 33 [l0, some (.int x0), l2] s h = am_E P 13 36 [l0, some (.int (x0 + 1)), l2] s h) ∧
  (∀ (P : Nat × Nat) (l0 : Option Value) (l1 : Option Value) (x0 : Int32) (s : List Value) (h : am_H), am_E P 13 36 [l0, l1, some (.int x0)] s h = am_E P 13 39 [l0, l1, some (.int (x0 + 1))] s h) ∧
  (∀ (P : Nat × Nat) (l0 : Option Value) (l1 : Option Value) (l2 : Option Value) (s : List Value) (h : am_H), am_E P 13 39 [l0, l1, l2] s h = am_E P 13 4 [l0, l1, l2] s h) ∧
  (∀ (P : Nat × Nat) (l0 : Option Value) (l2 : Option Value) (x0 : Int32) (s : List Value) (h : am_H), am_E P 13 42 [l0, some (.int x0), l2] s h = am_E P 13 43 [l0, some (.int x0), l2] (.int x0 :: s) h) ∧
  (∀ (P : Nat × Nat) (l0 : Option Value) (l1 : Option Value) (l2 : Option Value) (x0 : Int32) (h : am_H), am_E P 13 43 [l0, l1, l2] [.int x0] h = some (some (.int x0), h)) :=
  ⟨fun _ _ _ _ _ _ => er_go rfl rfl,
  fun _ _ _ _ _ _ _ => er_go rfl rfl,
  fun _ _ _ _ _ _ => er_go rfl rfl,
  fun _ _ _ _ _ _ _ => er_go rfl rfl,
  fun _ _ _ _ _ _ => er_go rfl rfl,
  fun _ _ _ _ _ => er_go rfl rfl,
  fun _ _ _ _ _ _ _ => er_get1 rfl,
  fun _ _ _ _ _ _ _ => er_callV rfl rfl rfl rfl,
  fun _ _ _ _ _ _ _ _ => er_ic_ge rfl,
  fun _ _ _ _ _ _ => er_go rfl rfl,
  fun _ _ _ _ _ => er_go rfl rfl,
  fun _ _ _ _ _ _ _ => er_get1 rfl,
  fun _ _ _ _ _ _ => er_go rfl rfl,
  fun _ _ _ _ _ _ _ => er_callV rfl rfl rfl rfl,
  fun _ _ _ _ _ _ _ => er_cast rfl,
  fun _ _ _ _ _ _ => er_go rfl rfl,
  fun _ _ _ _ _ _ _ => er_get1 rfl,
  fun _ _ _ _ _ _ => er_go rfl rfl,
  fun _ _ _ _ _ _ _ _ => er_ic_ne rfl,
  fun _ _ _ _ _ _ => er_go rfl rfl,
  fun _ _ _ _ _ _ => er_go rfl rfl,
  fun _ _ _ _ _ _ => er_go rfl rfl,
  fun _ _ _ _ _ _ => er_go rfl rfl,
  fun _ _ _ _ _ _ => er_ret rfl rfl⟩
theorem hd13_4 : ∀ (P : Nat × Nat) (l0 : Option Value) (l1 : Option Value) (x0 : Int32) (s : List Value) (h : am_H), am_E P 13 4 [l0, l1, some (.int x0)] s h = am_E P 13 5 [l0, l1, some (.int x0)] (.int x0 :: s) h := fun _ _ _ _ _ _ => er_go rfl rfl
/-- TwoStepOutputs$Output.tryFails()Z -/
theorem r14 : (∀ (P : Nat × Nat) (a0 : Nat) (s : List Value) (h : am_H), am_E P 14 0 [some (.ref a0)] s h = am_E P 14 1 [some (.ref a0)] (.ref a0 :: s) h) ∧
  (∀ (P : Nat × Nat) (s : List Value) (h : am_H), am_E P 14 0 [some .null] s h = am_E P 14 1 [some .null] (.null :: s) h) ∧
  (∀ (P : Nat × Nat) (l0 : Option Value) (a0 : Nat) (s : List Value) (h : am_H), am_E P 14 1 [l0] (.ref a0 :: s) h = am_E P 14 2 [l0] (.ref a0 :: .ref a0 :: s) h) ∧
  (∀ (P : Nat × Nat) (l0 : Option Value) (a0 : Nat) (s : List Value) (h : am_H), am_E P 14 2 [l0] (.ref a0 :: s) h = (am_g1 h a0 4 6).bind (fun v => am_E P 14 5 [l0] (v :: s) h)) ∧
  (∀ (P : Nat × Nat) (l0 : Option Value) (s : List Value) (h : am_H), am_E P 14 5 [l0] s h = am_E P 14 6 [l0] (.int 1 :: s) h) ∧
  (∀ (P : Nat × Nat) (l0 : Option Value) (x0 : Int32) (x1 : Int32) (s : List Value) (h : am_H), am_E P 14 6 [l0] (.int x1 :: .int x0 :: s) h = am_E P 14 7 [l0] (.int (x0 + x1) :: s) h) ∧
  (∀ (P : Nat × Nat) (l0 : Option Value) (a0 : Nat) (x0 : Int32) (s : List Value) (h : am_H), am_E P 14 7 [l0] (.int x0 :: .ref a0 :: s) h = (am_p1 h a0 4 6 (.int x0)).bind (fun h => am_E P 14 10 [l0] s h)) ∧
  (∀ (P : Nat × Nat) (a0 : Nat) (s : List Value) (h : am_H), am_E P 14 10 [some (.ref a0)] s h = am_E P 14 11 [some (.ref a0)] (.ref a0 :: s) h) ∧
  (∀ (P : Nat × Nat) (s : List Value) (h : am_H), am_E P 14 10 [some .null] s h = am_E P 14 11 [some .null] (.null :: s) h) ∧
  (∀ (P : Nat × Nat) (l0 : Option Value) (a0 : Nat) (s : List Value) (h : am_H), am_E P 14 11 [l0] (.ref a0 :: s) h = (am_g1 h a0 4 7).bind (fun v => am_E P 14 14 [l0] (v :: s) h)) ∧
  (∀ (P : Nat × Nat) (l0 : Option Value) (x0 : Int32) (s : List Value) (h : am_H), am_E P 14 14 [l0] (.int x0 :: s) h = if x0 = 0 then am_E P 14 17 [l0] s h else am_E P 14 19 [l0] s h) ∧
  (∀ (P : Nat × Nat) (l0 : Option Value) (s : List Value) (h : am_H), am_E P 14 17 [l0] s h = am_E P 14 18 [l0] (.int 0 :: s) h) ∧
  (∀ (P : Nat × Nat) (l0 : Option Value) (x0 : Int32) (h : am_H), am_E P 14 18 [l0] [.int x0] h = if x0 = 0 ∨ x0 = 1 then some (some (.int x0), h) else none) ∧
  (∀ (P : Nat × Nat) (a0 : Nat) (s : List Value) (h : am_H), am_E P 14 19 [some (.ref a0)] s h = am_E P 14 20 [some (.ref a0)] (.ref a0 :: s) h) ∧
  (∀ (P : Nat × Nat) (s : List Value) (h : am_H), am_E P 14 19 [some .null] s h = am_E P 14 20 [some .null] (.null :: s) h) ∧
  (∀ (P : Nat × Nat) (l0 : Option Value) (a0 : Nat) (s : List Value) (h : am_H), am_E P 14 20 [l0] (.ref a0 :: s) h = am_E P 14 21 [l0] (.ref a0 :: .ref a0 :: s) h) ∧
  (∀ (P : Nat × Nat) (l0 : Option Value) (a0 : Nat) (s : List Value) (h : am_H), am_E P 14 21 [l0] (.ref a0 :: s) h = (am_g1 h a0 4 7).bind (fun v => am_E P 14 24 [l0] (v :: s) h)) ∧
  (∀ (P : Nat × Nat) (l0 : Option Value) (s : List Value) (h : am_H), am_E P 14 24 [l0] s h = am_E P 14 25 [l0] (.int 1 :: s) h) ∧
  (∀ (P : Nat × Nat) (l0 : Option Value) (x0 : Int32) (x1 : Int32) (s : List Value) (h : am_H), am_E P 14 25 [l0] (.int x1 :: .int x0 :: s) h = am_E P 14 26 [l0] (.int (x0 - x1) :: s) h) ∧
  (∀ (P : Nat × Nat) (l0 : Option Value) (a0 : Nat) (x0 : Int32) (s : List Value) (h : am_H), am_E P 14 26 [l0] (.int x0 :: .ref a0 :: s) h = (am_p1 h a0 4 7 (.int x0)).bind (fun h => am_E P 14 29 [l0] s h)) ∧
  (∀ (P : Nat × Nat) (l0 : Option Value) (s : List Value) (h : am_H), am_E P 14 29 [l0] s h = am_E P 14 30 [l0] (.int 1 :: s) h) ∧
  (∀ (P : Nat × Nat) (l0 : Option Value) (x0 : Int32) (h : am_H), am_E P 14 30 [l0] [.int x0] h = if x0 = 0 ∨ x0 = 1 then some (some (.int x0), h) else none) :=
  ⟨fun _ _ _ _ => er_go rfl rfl,
  fun _ _ _ => er_go rfl rfl,
  fun _ _ _ _ _ => er_go rfl rfl,
  fun _ _ _ _ _ => er_get1 rfl,
  fun _ _ _ _ => er_go rfl rfl,
  fun _ _ _ _ _ _ => er_go rfl rfl,
  fun _ _ _ _ _ _ => er_put1 rfl rfl,
  fun _ _ _ _ => er_go rfl rfl,
  fun _ _ _ => er_go rfl rfl,
  fun _ _ _ _ _ => er_get1 rfl,
  fun _ _ _ _ _ => er_if_ne rfl,
  fun _ _ _ _ => er_go rfl rfl,
  fun _ _ _ _ => er_retZ rfl rfl,
  fun _ _ _ _ => er_go rfl rfl,
  fun _ _ _ => er_go rfl rfl,
  fun _ _ _ _ _ => er_go rfl rfl,
  fun _ _ _ _ _ => er_get1 rfl,
  fun _ _ _ _ => er_go rfl rfl,
  fun _ _ _ _ _ _ => er_go rfl rfl,
  fun _ _ _ _ _ _ => er_put1 rfl rfl,
  fun _ _ _ _ => er_go rfl rfl,
  fun _ _ _ _ => er_retZ rfl rfl⟩
/-- TwoStepOutputs$Output.showsOnlyMarksUpTo(I)Z -/
theorem r15 : (∀ (P : Nat × Nat) (l0 : Option Value) (l1 : Option Value) (l2 : Option Value) (s : List Value) (h : am_H), am_E P 15 0 [l0, l1, l2] s h = am_E P 15 1 [l0, l1, l2] (.int 0 :: s) h) ∧
  (∀ (P : Nat × Nat) (l0 : Option Value) (l1 : Option Value) (l2 : Option Value) (x0 : Int32) (s : List Value) (h : am_H), am_E P 15 1 [l0, l1, l2] (.int x0 :: s) h = am_E P 15 2 [l0, l1, some (.int x0)] s h) ∧
  (∀ (P : Nat × Nat) (l1 : Option Value) (l2 : Option Value) (a0 : Nat) (s : List Value) (h : am_H), am_E P 15 3 [some (.ref a0), l1, l2] s h = am_E P 15 4 [some (.ref a0), l1, l2] (.ref a0 :: s) h) ∧
  (∀ (P : Nat × Nat) (l1 : Option Value) (l2 : Option Value) (s : List Value) (h : am_H), am_E P 15 3 [some .null, l1, l2] s h = am_E P 15 4 [some .null, l1, l2] (.null :: s) h) ∧
  (∀ (P : Nat × Nat) (l0 : Option Value) (l1 : Option Value) (l2 : Option Value) (a0 : Nat) (s : List Value) (h : am_H), am_E P 15 4 [l0, l1, l2] (.ref a0 :: s) h = (am_g1 h a0 4 8).bind (fun v => am_E P 15 7 [l0, l1, l2] (v :: s) h)) ∧
  (∀ (P : Nat × Nat) (l0 : Option Value) (l1 : Option Value) (l2 : Option Value) (a0 : Nat) (v0 : Value) (h : am_H), am_E P 15 7 [l0, l1, l2] [.ref a0, v0] h = if am_cls h a0 = some 3 then (am_E P 24 0 [some (.ref a0)] [] h).bind (fun q => am_E P 15 10 [l0, l1, l2] (q.1.toList ++ [v0]) q.2) else none) ∧
  (∀ (P : Nat × Nat) (l0 : Option Value) (l1 : Option Value) (l2 : Option Value) (x0 : Int32) (x1 : Int32) (s : List Value) (h : am_H), am_E P 15 10 [l0, l1, l2] (.int x1 :: .int x0 :: s) h = if x1 ≤ x0 then am_E P 15 38 [l0, l1, l2] s h else am_E P 15 13 [l0, l1, l2] s h) ∧
  (∀ (P : Nat × Nat) (l1 : Option Value) (l2 : Option Value) (a0 : Nat) (s : List Value) (h : am_H), am_E P 15 13 [some (.ref a0), l1, l2] s h = am_E P 15 14 [some (.ref a0), l1, l2] (.ref a0 :: s) h) ∧
  (∀ (P : Nat × Nat) (l1 : Option Value) (l2 : Option Value) (s : List Value) (h : am_H), am_E P 15 13 [some .null, l1, l2] s h = am_E P 15 14 [some .null, l1, l2] (.null :: s) h) ∧
  (∀ (P : Nat × Nat) (l1 : Option Value) (l2 : Option Value) (a0 : Nat) (s : List Value) (h : am_H), am_E P 15 14 [some (.ref a0), l1, l2] s h = am_E P 15 15 [some (.ref a0), l1, l2] (.ref a0 :: s) h) ∧
  (∀ (P : Nat × Nat) (l1 : Option Value) (l2 : Option Value) (s : List Value) (h : am_H), am_E P 15 14 [some .null, l1, l2] s h = am_E P 15 15 [some .null, l1, l2] (.null :: s) h) ∧
  (∀ (P : Nat × Nat) (l0 : Option Value) (l1 : Option Value) (l2 : Option Value) (a0 : Nat) (s : List Value) (h : am_H), am_E P 15 15 [l0, l1, l2] (.ref a0 :: s) h = (am_g1 h a0 4 8).bind (fun v => am_E P 15 18 [l0, l1, l2] (v :: s) h)) ∧
  (∀ (P : Nat × Nat) (l0 : Option Value) (l1 : Option Value) (x0 : Int32) (s : List Value) (h : am_H), am_E P 15 18 [l0, l1, some (.int x0)] s h = am_E P 15 19 [l0, l1, some (.int x0)] (.int x0 :: s) h) ∧
  (∀ (P : Nat × Nat) (l0 : Option Value) (l1 : Option Value) (l2 : Option Value) (s : List Value) (h : am_H), am_E P 15 19 [l0, l1, l2] s h = am_E P 15 20 [l0, l1, l2] (.int 2 :: s) h) ∧
  (∀ (P : Nat × Nat) (l0 : Option Value) (l1 : Option Value) (l2 : Option Value) (a0 : Nat) (x0 : Int32) (x1 : Int32) (v0 : Value) (h : am_H), am_E P 15 20 [l0, l1, l2] [.int x1, .int x0, .ref a0, v0] h = if am_cls h a0 = some 3 then (am_E P 26 0 [some (.ref a0), some (.int x0), some (.int x1)] [] h).bind (fun q => am_E P 15 23 [l0, l1, l2] (q.1.toList ++ [v0]) q.2) else none) ∧
  (∀ (P : Nat × Nat) (l0 : Option Value) (l2 : Option Value) (x0 : Int32) (s : List Value) (h : am_H), am_E P 15 23 [l0, some (.int x0), l2] s h = am_E P 15 24 [l0, some (.int x0), l2] (.int x0 :: s) h) ∧
  (∀ (P : Nat × Nat) (l0 : Option Value) (l1 : Option Value) (l2 : Option Value) (a0 : Nat) (x0 : Int32) (x1 : Int32) (h : am_H), am_E P 15 24 [l0, l1, l2] [.int x1, .int x0, .ref a0] h = if am_cls h a0 = some 4 then (am_E P 16 0 [some (.ref a0), some (.int x0), some (.int x1), none] [] h).bind (fun q => am_E P 15 27 [l0, l1, l2] (q.1.toList ++ []) q.2) else none) ∧
  (∀ (P : Nat × Nat) (l0 : Option Value) (l1 : Option Value) (l2 : Option Value) (x0 : Int32) (s : List Value) (h : am_H), am_E P 15 27 [l0, l1, l2] (.int x0 :: s) h = if x0 = 0 then am_E P 15 30 [l0, l1, l2] s h else am_E P 15 32 [l0, l1, l2] s h) ∧
  (∀ (P : Nat × Nat) (l0 : Option Value) (l1 : Option Value) (l2 : Option Value) (s : List Value) (h : am_H), am_E P 15 30 [l0, l1, l2] s h = am_E P 15 31 [l0, l1, l2] (.int 0 :: s) h) ∧
  (∀ (P : Nat × Nat) (l0 : Option Value) (l1 : Option Value) (l2 : Option Value) (x0 : Int32) (h : am_H), am_E P 15 31 [l0, l1, l2] [.int x0] h = if x0 = 0 ∨ x0 = 1 then some (some (.int x0), h) else none) ∧
  (∀ (P : Nat × Nat) (l0 : Option Value) (l1 : Option Value) (x0 : Int32) (s : List Value) (h : am_H), am_E P 15 32 [l0, l1, some (.int x0)] s h = am_E P 15 35 [l0, l1, some (.int (x0 + 1))] s h) ∧
  (∀ (P : Nat × Nat) (l0 : Option Value) (l1 : Option Value) (l2 : Option Value) (s : List Value) (h : am_H), am_E P 15 35 [l0, l1, l2] s h = am_E P 15 2 [l0, l1, l2] s h) ∧
  (∀ (P : Nat × Nat) (l0 : Option Value) (l1 : Option Value) (l2 : Option Value) (s : List Value) (h : am_H), am_E P 15 38 [l0, l1, l2] s h = am_E P 15 39 [l0, l1, l2] (.int 0 :: s) h) ∧
  (∀ (P : Nat × Nat) (l0 : Option Value) (l1 : Option Value) (l2 : Option Value) (x0 : Int32) (s : List Value) (h : am_H), am_E P 15 39 [l0, l1, l2] (.int x0 :: s) h = am_E P 15 40 [l0, l1, some (.int x0)] s h) ∧
  (∀ (P : Nat × Nat) (l0 : Option Value) (l1 : Option Value) (l2 : Option Value) (s : List Value) (h : am_H), am_E P 15 41 [l0, l1, l2] s h = am_E P 15 43 [l0, l1, l2] (.int 10 :: s) h) ∧
  (∀ (P : Nat × Nat) (l0 : Option Value) (l1 : Option Value) (l2 : Option Value) (x0 : Int32) (x1 : Int32) (s : List Value) (h : am_H), am_E P 15 43 [l0, l1, l2] (.int x1 :: .int x0 :: s) h = if x1 ≤ x0 then am_E P 15 82 [l0, l1, l2] s h else am_E P 15 46 [l0, l1, l2] s h) ∧
  (∀ (P : Nat × Nat) (l1 : Option Value) (l2 : Option Value) (a0 : Nat) (s : List Value) (h : am_H), am_E P 15 46 [some (.ref a0), l1, l2] s h = am_E P 15 47 [some (.ref a0), l1, l2] (.ref a0 :: s) h) ∧
  (∀ (P : Nat × Nat) (l1 : Option Value) (l2 : Option Value) (s : List Value) (h : am_H), am_E P 15 46 [some .null, l1, l2] s h = am_E P 15 47 [some .null, l1, l2] (.null :: s) h) ∧
  (∀ (P : Nat × Nat) (l0 : Option Value) (l1 : Option Value) (l2 : Option Value) (a0 : Nat) (s : List Value) (h : am_H), am_E P 15 47 [l0, l1, l2] (.ref a0 :: s) h = (am_g1 h a0 4 9).bind (fun v => am_E P 15 50 [l0, l1, l2] (v :: s) h)) ∧
  (∀ (P : Nat × Nat) (l0 : Option Value) (l1 : Option Value) (x0 : Int32) (s : List Value) (h : am_H), am_E P 15 50 [l0, l1, some (.int x0)] s h = am_E P 15 51 [l0, l1, some (.int x0)] (.int x0 :: s) h) ∧
  (∀ (P : Nat × Nat) (l0 : Option Value) (l1 : Option Value) (l2 : Option Value) (a0 : Nat) (x0 : Int32) (h : am_H), am_E P 15 51 [l0, l1, l2] [.int x0, .ref a0] h = if am_cls h a0 = some 7 then (am_E P 30 0 [some (.ref a0), some (.int x0)] [] h).bind (fun q => am_E P 15 54 [l0, l1, l2] (q.1.toList ++ []) q.2) else none) ∧
  (∀ (P : Nat × Nat) (l0 : Option Value) (l1 : Option Value) (l2 : Option Value) (x0 : Int32) (s : List Value) (h : am_H), am_E P 15 54 [l0, l1, l2] (.int x0 :: s) h = if x0 = 0 then am_E P 15 76 [l0, l1, l2] s h else am_E P 15 57 [l0, l1, l2] s h) ∧
  (∀ (P : Nat × Nat) (l1 : Option Value) (l2 : Option Value) (a0 : Nat) (s : List Value) (h : am_H), am_E P 15 57 [some (.ref a0), l1, l2] s h = am_E P 15 58 [some (.ref a0), l1, l2] (.ref a0 :: s) h) ∧
  (∀ (P : Nat × Nat) (l1 : Option Value) (l2 : Option Value) (s : List Value) (h : am_H), am_E P 15 57 [some .null, l1, l2] s h = am_E P 15 58 [some .null, l1, l2] (.null :: s) h) ∧
  (∀ (P : Nat × Nat) (l1 : Option Value) (l2 : Option Value) (a0 : Nat) (s : List Value) (h : am_H), am_E P 15 58 [some (.ref a0), l1, l2] s h = am_E P 15 59 [some (.ref a0), l1, l2] (.ref a0 :: s) h) ∧
  (∀ (P : Nat × Nat) (l1 : Option Value) (l2 : Option Value) (s : List Value) (h : am_H), am_E P 15 58 [some .null, l1, l2] s h = am_E P 15 59 [some .null, l1, l2] (.null :: s) h) ∧
  (∀ (P : Nat × Nat) (l0 : Option Value) (l1 : Option Value) (l2 : Option Value) (a0 : Nat) (s : List Value) (h : am_H), am_E P 15 59 [l0, l1, l2] (.ref a0 :: s) h = (am_g1 h a0 4 9).bind (fun v => am_E P 15 62 [l0, l1, l2] (v :: s) h)) ∧
  (∀ (P : Nat × Nat) (l0 : Option Value) (l1 : Option Value) (l2 : Option Value) (a0 : Nat) (s : List Value) (h : am_H), am_E P 15 62 [l0, l1, l2] (.ref a0 :: s) h = (am_g1 h a0 7 1).bind (fun v => am_E P 15 65 [l0, l1, l2] (v :: s) h)) ∧
  (∀ (P : Nat × Nat) (l0 : Option Value) (l1 : Option Value) (x0 : Int32) (s : List Value) (h : am_H), am_E P 15 65 [l0, l1, some (.int x0)] s h = am_E P 15 66 [l0, l1, some (.int x0)] (.int x0 :: s) h) ∧
  (∀ (P : Nat × Nat) (l0 : Option Value) (l1 : Option Value) (l2 : Option Value) (x0 : Int32) (a0 : Nat) (s : List Value) (h : am_H), am_E P 15 66 [l0, l1, l2] (.int x0 :: .ref a0 :: s) h = (am_iald h a0 x0).bind (fun v => am_E P 15 67 [l0, l1, l2] (.int v :: s) h)) ∧
  (∀ (P : Nat × Nat) (l0 : Option Value) (l2 : Option Value) (x0 : Int32) (s : List Value) (h : am_H), am_E P 15 67 [l0, some (.int x0), l2] s h = am_E P 15 68 [l0, some (.int x0), l2] (.int x0 :: s) h) ∧
  (∀ (P : Nat × Nat) (l0 : Option Value) (l1 : Option Value) (l2 : Option Value) (a0 : Nat) (x0 : Int32) (x1 : Int32) (h : am_H), am_E P 15 68 [l0, l1, l2] [.int x1, .int x0, .ref a0] h = if am_cls h a0 = some 4 then (am_E P 16 0 [some (.ref a0), some (.int x0), some (.int x1), none] [] h).bind (fun q => am_E P 15 71 [l0, l1, l2] (q.1.toList ++ []) q.2) else none) ∧
  (∀ (P : Nat × Nat) (l0 : Option Value) (l1 : Option Value) (l2 : Option Value) (x0 : Int32) (s : List Value) (h : am_H), am_E P 15 71 [l0, l1, l2] (.int x0 :: s) h = if x0 = 0 then am_E P 15 74 [l0, l1, l2] s h else am_E P 15 76 [l0, l1, l2] s h) ∧
  (∀ (P : Nat × Nat) (l0 : Option Value) (l1 : Option Value) (l2 : Option Value) (s : List Value) (h : am_H), am_E P 15 74 [l0, l1, l2] s h = am_E P 15 75 [l0, l1, l2] (.int 0 :: s) h) ∧
  (∀ (P : Nat × Nat) (l0 : Option Value) (l1 : Option Value) (l2 : Option Value) (x0 : Int32) (h : am_H), am_E P 15 75 [l0, l1, l2] [.int x0] h = if x0 = 0 ∨ x0 = 1 then some (some (.int x0), h) else none) ∧
  (∀ (P : Nat × Nat) (l0 : Option Value) (l1 : Option Value) (x0 : Int32) (s : List Value) (h : am_H), am_E P 15 76 [l0, l1, some (.int x0)] s h = am_E P 15 79 [l0, l1, some (.int (x0 + 1))] s h) ∧
  (∀ (P : Nat × Nat) (l0 : Option Value) (l1 : Option Value) (l2 : Option Value) (s : List Value) (h : am_H), am_E P 15 79 [l0, l1, l2] s h = am_E P 15 40 [l0, l1, l2] s h) ∧
  (∀ (P : Nat × Nat) (l0 : Option Value) (l1 : Option Value) (l2 : Option Value) (s : List Value) (h : am_H), am_E P 15 82 [l0, l1, l2] s h = am_E P 15 83 [l0, l1, l2] (.int 1 :: s) h) ∧
  (∀ (P : Nat × Nat) (l0 : Option Value) (l1 : Option Value) (l2 : Option Value) (x0 : Int32) (h : am_H), am_E P 15 83 [l0, l1, l2] [.int x0] h = if x0 = 0 ∨ x0 = 1 then some (some (.int x0), h) else none) :=
  ⟨fun _ _ _ _ _ _ => er_go rfl rfl,
  fun _ _ _ _ _ _ _ => er_go rfl rfl,
  fun _ _ _ _ _ _ => er_go rfl rfl,
  fun _ _ _ _ _ => er_go rfl rfl,
  fun _ _ _ _ _ _ _ => er_get1 rfl,
  fun _ _ _ _ _ _ _ => er_callV rfl rfl rfl rfl,
  fun _ _ _ _ _ _ _ _ => er_ic_ge rfl,
  fun _ _ _ _ _ _ => er_go rfl rfl,
  fun _ _ _ _ _ => er_go rfl rfl,
  fun _ _ _ _ _ _ => er_go rfl rfl,
  fun _ _ _ _ _ => er_go rfl rfl,
  fun _ _ _ _ _ _ _ => er_get1 rfl,
  fun _ _ _ _ _ _ => er_go rfl rfl,
  fun _ _ _ _ _ _ => er_go rfl rfl,
  fun _ _ _ _ _ _ _ _ _ => er_callV rfl rfl rfl rfl,
  fun _ _ _ _ _ _ => er_go rfl rfl,
  fun _ _ _ _ _ _ _ _ => er_callV rfl rfl rfl rfl,
  fun _ _ _ _ _ _ _ => er_if_ne rfl,
  fun _ _ _ _ _ _ => er_go rfl rfl,
  fun _ _ _ _ _ _ => er_retZ rfl rfl,
  fun _ _ _ _ _ _ => er_go rfl rfl,
  fun _ _ _ _ _ _ => er_go rfl rfl,
  fun _ _ _ _ _ _ => er_go rfl rfl,
  fun _ _ _ _ _ _ _ => er_go rfl rfl,
  fun _ _ _ _ _ _ => er_go rfl rfl,
  fun _ _ _ _ _ _ _ _ => er_ic_ge rfl,
  fun _ _ _ _ _ _ => er_go rfl rfl,
  fun _ _ _ _ _ => er_go rfl rfl,
  fun _ _ _ _ _ _ _ => er_get1 rfl,
  fun _ _ _ _ _ _ => er_go rfl rfl,
  fun _ _ _ _ _ _ _ => er_callV rfl rfl rfl rfl,
  fun _ _ _ _ _ _ _ => er_if_eq rfl,
  fun _ _ _ _ _ _ => er_go rfl rfl,
  fun _ _ _ _ _ => er_go rfl rfl,
  fun _ _ _ _ _ _ => er_go rfl rfl,
  fun _ _ _ _ _ => er_go rfl rfl,
  fun _ _ _ _ _ _ _ => er_get1 rfl,
  fun _ _ _ _ _ _ _ => er_get1 rfl,
  fun _ _ _ _ _ _ => er_go rfl rfl,
  fun _ _ _ _ _ _ _ _ => er_iald rfl,
  fun _ _ _ _ _ _ => er_go rfl rfl,
  fun _ _ _ _ _ _ _ _ => er_callV rfl rfl rfl rfl,
  fun _ _ _ _ _ _ _ => er_if_ne rfl,
  fun _ _ _ _ _ _ => er_go rfl rfl,
  fun _ _ _ _ _ _ => er_retZ rfl rfl,
  fun _ _ _ _ _ _ => er_go rfl rfl,
  fun _ _ _ _ _ _ => er_go rfl rfl,
  fun _ _ _ _ _ _ => er_go rfl rfl,
  fun _ _ _ _ _ _ => er_retZ rfl rfl⟩
theorem hd15_2 : ∀ (P : Nat × Nat) (l0 : Option Value) (l1 : Option Value) (x0 : Int32) (s : List Value) (h : am_H), am_E P 15 2 [l0, l1, some (.int x0)] s h = am_E P 15 3 [l0, l1, some (.int x0)] (.int x0 :: s) h := fun _ _ _ _ _ _ => er_go rfl rfl
theorem hd15_40 : ∀ (P : Nat × Nat) (l0 : Option Value) (l1 : Option Value) (x0 : Int32) (s : List Value) (h : am_H), am_E P 15 40 [l0, l1, some (.int x0)] s h = am_E P 15 41 [l0, l1, some (.int x0)] (.int x0 :: s) h := fun _ _ _ _ _ _ => er_go rfl rfl
/-- TwoStepOutputs$Output.isClosedUpTo(II)Z -/
theorem r16 : (∀ (P : Nat × Nat) (l1 : Option Value) (l2 : Option Value) (l3 : Option Value) (a0 : Nat) (s : List Value) (h : am_H), am_E P 16 0 [some (.ref a0), l1, l2, l3] s h = am_E P 16 1 [some (.ref a0), l1, l2, l3] (.ref a0 :: s) h) ∧
  (∀ (P : Nat × Nat) (l1 : Option Value) (l2 : Option Value) (l3 : Option Value) (s : List Value) (h : am_H), am_E P 16 0 [some .null, l1, l2, l3] s h = am_E P 16 1 [some .null, l1, l2, l3] (.null :: s) h) ∧
  (∀ (P : Nat × Nat) (l0 : Option Value) (l2 : Option Value) (l3 : Option Value) (x0 : Int32) (s : List Value) (h : am_H), am_E P 16 1 [l0, some (.int x0), l2, l3] s h = am_E P 16 2 [l0, some (.int x0), l2, l3] (.int x0 :: s) h) ∧
  (∀ (P : Nat × Nat) (l0 : Option Value) (l1 : Option Value) (l2 : Option Value) (l3 : Option Value) (a0 : Nat) (x0 : Int32) (h : am_H), am_E P 16 2 [l0, l1, l2, l3] [.int x0, .ref a0] h = if am_cls h a0 = some 4 then (am_E P 12 0 [some (.ref a0), some (.int x0)] [] h).bind (fun q => am_E P 16 5 [l0, l1, l2, l3] (q.1.toList ++ []) q.2) else none) ∧
  (∀ (P : Nat × Nat) (l0 : Option Value) (l1 : Option Value) (l2 : Option Value) (l3 : Option Value) (a0 : Nat) (s : List Value) (h : am_H), am_E P 16 5 [l0, l1, l2, l3] (.ref a0 :: s) h = am_E P 16 6 [l0, l1, l2, some (.ref a0)] s h) ∧
  (∀ (P : Nat × Nat) (l0 : Option Value) (l1 : Option Value) (l2 : Option Value) (l3 : Option Value) (s : List Value) (h : am_H), am_E P 16 5 [l0, l1, l2, l3] (.null :: s) h = am_E P 16 6 [l0, l1, l2, some .null] s h) ∧
  (∀ (P : Nat × Nat) (l0 : Option Value) (l1 : Option Value) (l2 : Option Value) (a0 : Nat) (s : List Value) (h : am_H), am_E P 16 6 [l0, l1, l2, some (.ref a0)] s h = am_E P 16 7 [l0, l1, l2, some (.ref a0)] (.ref a0 :: s) h) ∧
  (∀ (P : Nat × Nat) (l0 : Option Value) (l1 : Option Value) (l2 : Option Value) (s : List Value) (h : am_H), am_E P 16 6 [l0, l1, l2, some .null] s h = am_E P 16 7 [l0, l1, l2, some .null] (.null :: s) h) ∧
  (∀ (P : Nat × Nat) (l0 : Option Value) (l1 : Option Value) (l2 : Option Value) (l3 : Option Value) (a0 : Nat) (s : List Value) (h : am_H), am_E P 16 7 [l0, l1, l2, l3] (.ref a0 :: s) h = am_E P 16 10 [l0, l1, l2, l3] s h) ∧
  (∀ (P : Nat × Nat) (l0 : Option Value) (l1 : Option Value) (l2 : Option Value) (l3 : Option Value) (s : List Value) (h : am_H), am_E P 16 7 [l0, l1, l2, l3] (.null :: s) h = am_E P 16 29 [l0, l1, l2, l3] s h) ∧
  (∀ (P : Nat × Nat) (l0 : Option Value) (l1 : Option Value) (l2 : Option Value) (a0 : Nat) (s : List Value) (h : am_H), am_E P 16 10 [l0, l1, l2, some (.ref a0)] s h = am_E P 16 11 [l0, l1, l2, some (.ref a0)] (.ref a0 :: s) h) ∧
  (∀ (P : Nat × Nat) (l0 : Option Value) (l1 : Option Value) (l2 : Option Value) (s : List Value) (h : am_H), am_E P 16 10 [l0, l1, l2, some .null] s h = am_E P 16 11 [l0, l1, l2, some .null] (.null :: s) h) ∧
  (∀ (P : Nat × Nat) (l0 : Option Value) (l1 : Option Value) (l2 : Option Value) (l3 : Option Value) (a0 : Nat) (s : List Value) (h : am_H), am_E P 16 11 [l0, l1, l2, l3] (.ref a0 :: s) h = (am_g1 h a0 5 4).bind (fun v => am_E P 16 14 [l0, l1, l2, l3] (v :: s) h)) ∧
  (∀ (P : Nat × Nat) (l0 : Option Value) (l1 : Option Value) (l2 : Option Value) (l3 : Option Value) (x0 : Int32) (s : List Value) (h : am_H), am_E P 16 14 [l0, l1, l2, l3] (.int x0 :: s) h = if x0 = 0 then am_E P 16 29 [l0, l1, l2, l3] s h else am_E P 16 17 [l0, l1, l2, l3] s h) ∧
  (∀ (P : Nat × Nat) (l0 : Option Value) (l1 : Option Value) (l2 : Option Value) (a0 : Nat) (s : List Value) (h : am_H), am_E P 16 17 [l0, l1, l2, some (.ref a0)] s h = am_E P 16 18 [l0, l1, l2, some (.ref a0)] (.ref a0 :: s) h) ∧
  (∀ (P : Nat × Nat) (l0 : Option Value) (l1 : Option Value) (l2 : Option Value) (s : List Value) (h : am_H), am_E P 16 17 [l0, l1, l2, some .null] s h = am_E P 16 18 [l0, l1, l2, some .null] (.null :: s) h) ∧
  (∀ (P : Nat × Nat) (l0 : Option Value) (l1 : Option Value) (l2 : Option Value) (l3 : Option Value) (a0 : Nat) (s : List Value) (h : am_H), am_E P 16 18 [l0, l1, l2, l3] (.ref a0 :: s) h = (am_g1 h a0 5 3).bind (fun v => am_E P 16 21 [l0, l1, l2, l3] (v :: s) h)) ∧
  (∀ (P : Nat × Nat) (l0 : Option Value) (l1 : Option Value) (l3 : Option Value) (x0 : Int32) (s : List Value) (h : am_H), am_E P 16 21 [l0, l1, some (.int x0), l3] s h = am_E P 16 22 [l0, l1, some (.int x0), l3] (.int x0 :: s) h) ∧
  (∀ (P : Nat × Nat) (l0 : Option Value) (l1 : Option Value) (l2 : Option Value) (l3 : Option Value) (x0 : Int32) (x1 : Int32) (s : List Value) (h : am_H), am_E P 16 22 [l0, l1, l2, l3] (.int x1 :: .int x0 :: s) h = if x1 < x0 then am_E P 16 29 [l0, l1, l2, l3] s h else am_E P 16 25 [l0, l1, l2, l3] s h) ∧
  (∀ (P : Nat × Nat) (l0 : Option Value) (l1 : Option Value) (l2 : Option Value) (l3 : Option Value) (s : List Value) (h : am_H), am_E P 16 25 [l0, l1, l2, l3] s h = am_E P 16 26 [l0, l1, l2, l3] (.int 1 :: s) h) ∧
  (∀ (P : Nat × Nat) (l0 : Option Value) (l1 : Option Value) (l2 : Option Value) (l3 : Option Value) (s : List Value) (h : am_H), am_E P 16 26 [l0, l1, l2, l3] s h = am_E P 16 30 [l0, l1, l2, l3] s h) ∧
  (∀ (P : Nat × Nat) (l0 : Option Value) (l1 : Option Value) (l2 : Option Value) (l3 : Option Value) (s : List Value) (h : am_H), am_E P 16 29 [l0, l1, l2, l3] s h = am_E P 16 30 [l0, l1, l2, l3] (.int 0 :: s) h) ∧
  (∀ (P : Nat × Nat) (l0 : Option Value) (l1 : Option Value) (l2 : Option Value) (l3 : Option Value) (x0 : Int32) (h : am_H), am_E P 16 30 [l0, l1, l2, l3] [.int x0] h = if x0 = 0 ∨ x0 = 1 then some (some (.int x0), h) else none) :=
  ⟨fun _ _ _ _ _ _ _ => er_go rfl rfl,
  fun _ _ _ _ _ _ => er_go rfl rfl,
  fun _ _ _ _ _ _ _ => er_go rfl rfl,
  fun _ _ _ _ _ _ _ _ => er_callV rfl rfl rfl rfl,
  fun _ _ _ _ _ _ _ _ => er_go rfl rfl,
  fun _ _ _ _ _ _ _ => er_go rfl rfl,
  fun _ _ _ _ _ _ _ => er_go rfl rfl,
  fun _ _ _ _ _ _ => er_go rfl rfl,
  fun _ _ _ _ _ _ _ _ => er_go rfl rfl,
  fun _ _ _ _ _ _ _ => er_go rfl rfl,
  fun _ _ _ _ _ _ _ => er_go rfl rfl,
  fun _ _ _ _ _ _ => er_go rfl rfl,
  fun _ _ _ _ _ _ _ _ => er_get1 rfl,
  fun _ _ _ _ _ _ _ _ => er_if_eq rfl,
  fun _ _ _ _ _ _ _ => er_go rfl rfl,
  fun _ _ _ _ _ _ => er_go rfl rfl,
  fun _ _ _ _ _ _ _ _ => er_get1 rfl,
  fun _ _ _ _ _ _ _ => er_go rfl rfl,
  fun _ _ _ _ _ _ _ _ _ => er_ic_gt rfl,
  fun _ _ _ _ _ _ _ => er_go rfl rfl,
  fun _ _ _ _ _ _ _ => er_go rfl rfl,
  fun _ _ _ _ _ _ _ => er_go rfl rfl,
  fun _ _ _ _ _ _ _ => er_retZ rfl rfl⟩
/-- TwoStepOutputs$Output.showsNoLineTwice()Z -/
theorem r17 : (∀ (P : Nat × Nat) (l0 : Option Value) (l1 : Option Value) (l2 : Option Value) (l3 : Option Value) (s : List Value) (h : am_H), am_E P 17 0 [l0, l1, l2, l3] s h = am_E P 17 1 [l0, l1, l2, l3] (.int 0 :: s) h) ∧
  (∀ (P : Nat × Nat) (l0 : Option Value) (l1 : Option Value) (l2 : Option Value) (l3 : Option Value) (x0 : Int32) (s : List Value) (h : am_H), am_E P 17 1 [l0, l1, l2, l3] (.int x0 :: s) h = am_E P 17 2 [l0, some (.int x0), l2, l3] s h) ∧
  (∀ (P : Nat × Nat) (l1 : Option Value) (l2 : Option Value) (l3 : Option Value) (a0 : Nat) (s : List Value) (h : am_H), am_E P 17 3 [some (.ref a0), l1, l2, l3] s h = am_E P 17 4 [some (.ref a0), l1, l2, l3] (.ref a0 :: s) h) ∧
  (∀ (P : Nat × Nat) (l1 : Option Value) (l2 : Option Value) (l3 : Option Value) (s : List Value) (h : am_H), am_E P 17 3 [some .null, l1, l2, l3] s h = am_E P 17 4 [some .null, l1, l2, l3] (.null :: s) h) ∧
  (∀ (P : Nat × Nat) (l0 : Option Value) (l1 : Option Value) (l2 : Option Value) (l3 : Option Value) (a0 : Nat) (s : List Value) (h : am_H), am_E P 17 4 [l0, l1, l2, l3] (.ref a0 :: s) h = (am_g1 h a0 4 5).bind (fun v => am_E P 17 7 [l0, l1, l2, l3] (v :: s) h)) ∧
  (∀ (P : Nat × Nat) (l0 : Option Value) (l1 : Option Value) (l2 : Option Value) (l3 : Option Value) (a0 : Nat) (v0 : Value) (h : am_H), am_E P 17 7 [l0, l1, l2, l3] [.ref a0, v0] h = if am_cls h a0 = some 0 then (am_E P 118 0 [some (.ref a0)] [] h).bind (fun q => am_E P 17 10 [l0, l1, l2, l3] (q.1.toList ++ [v0]) q.2) else none) ∧
  (∀ (P : Nat × Nat) (l0 : Option Value) (l1 : Option Value) (l2 : Option Value) (l3 : Option Value) (x0 : Int32) (x1 : Int32) (s : List Value) (h : am_H), am_E P 17 10 [l0, l1, l2, l3] (.int x1 :: .int x0 :: s) h = if x1 ≤ x0 then am_E P 17 34 [l0, l1, l2, l3] s h else am_E P 17 13 [l0, l1, l2, l3] s h) ∧
  (∀ (P : Nat × Nat) (l1 : Option Value) (l2 : Option Value) (l3 : Option Value) (a0 : Nat) (s : List Value) (h : am_H), am_E P 17 13 [some (.ref a0), l1, l2, l3] s h = am_E P 17 14 [some (.ref a0), l1, l2, l3] (.ref a0 :: s) h) ∧
  (∀ (P : Nat × Nat) (l1 : Option Value) (l2 : Option Value) (l3 : Option Value) (s : List Value) (h : am_H), am_E P 17 13 [some .null, l1, l2, l3] s h = am_E P 17 14 [some .null, l1, l2, l3] (.null :: s) h) ∧
  (∀ (P : Nat × Nat) (l0 : Option Value) (l1 : Option Value) (l2 : Option Value) (l3 : Option Value) (a0 : Nat) (s : List Value) (h : am_H), am_E P 17 14 [l0, l1, l2, l3] (.ref a0 :: s) h = (am_g1 h a0 4 5).bind (fun v => am_E P 17 17 [l0, l1, l2, l3] (v :: s) h)) ∧
  (∀ (P : Nat × Nat) (l0 : Option Value) (l2 : Option Value) (l3 : Option Value) (x0 : Int32) (s : List Value) (h : am_H), am_E P 17 17 [l0, some (.int x0), l2, l3] s h = am_E P 17 18 [l0, some (.int x0), l2, l3] (.int x0 :: s) h) ∧
  (∀ (P : Nat × Nat) (l0 : Option Value) (l1 : Option Value) (l2 : Option Value) (l3 : Option Value) (a0 : Nat) (x0 : Int32) (h : am_H), am_E P 17 18 [l0, l1, l2, l3] [.int x0, .ref a0] h = if am_cls h a0 = some 0 then (am_E P 120 0 [some (.ref a0), some (.int x0)] [] h).bind (fun q => am_E P 17 21 [l0, l1, l2, l3] (q.1.toList ++ []) q.2) else none) ∧
  (∀ (P : Nat × Nat) (l0 : Option Value) (l1 : Option Value) (l2 : Option Value) (l3 : Option Value) (a0 : Nat) (s : List Value) (h : am_H), am_E P 17 21 [l0, l1, l2, l3] (.ref a0 :: s) h = if am_cls h a0 = some 5 then am_E P 17 24 [l0, l1, l2, l3] (.ref a0 :: s) h else none) ∧
  (∀ (P : Nat × Nat) (l0 : Option Value) (l1 : Option Value) (l2 : Option Value) (l3 : Option Value) (s : List Value) (h : am_H), am_E P 17 21 [l0, l1, l2, l3] (.null :: s) h = am_E P 17 24 [l0, l1, l2, l3] (.null :: s) h) ∧
  (∀ (P : Nat × Nat) (l0 : Option Value) (l1 : Option Value) (l2 : Option Value) (l3 : Option Value) (s : List Value) (h : am_H), am_E P 17 24 [l0, l1, l2, l3] s h = am_E P 17 25 [l0, l1, l2, l3] (.int 0 :: s) h) ∧
  (∀ (P : Nat × Nat) (l0 : Option Value) (l1 : Option Value) (l2 : Option Value) (l3 : Option Value) (a0 : Nat) (x0 : Int32) (s : List Value) (h : am_H), am_E P 17 25 [l0, l1, l2, l3] (.int x0 :: .ref a0 :: s) h = (am_p1 h a0 5 5 (.int x0)).bind (fun h => am_E P 17 28 [l0, l1, l2, l3] s h)) ∧
  (∀ (P : Nat × Nat) (l0 : Option Value) (l2 : Option Value) (l3 : Option Value) (x0 : Int32) (s : List Value) (h : am_H), am_E P 17 28 [l0, some (.int x0), l2, l3] s h = am_E P 17 31 [l0, some (.int (x0 + 1)), l2, l3] s h) ∧
  (∀ (P : Nat × Nat) (l0 : Option Value) (l1 : Option Value) (l2 : Option Value) (l3 : Option Value) (s : List Value) (h : am_H), am_E P 17 31 [l0, l1, l2, l3] s h = am_E P 17 2 [l0, l1, l2, l3] s h) ∧
  (∀ (P : Nat × Nat) (l0 : Option Value) (l1 : Option Value) (l2 : Option Value) (l3 : Option Value) (s : List Value) (h : am_H), am_E P 17 34 [l0, l1, l2, l3] s h = am_E P 17 35 [l0, l1, l2, l3] (.int 0 :: s) h) ∧
  (∀ (P : Nat × Nat) (l0 : Option Value) (l1 : Option Value) (l2 : Option Value) (l3 : Option Value) (x0 : Int32) (s : List Value) (h : am_H), am_E P 17 35 [l0, l1, l2, l3] (.int x0 :: s) h = am_E P 17 36 [l0, some (.int x0), l2, l3] s h) ∧
  (∀ (P : Nat × Nat) (l1 : Option Value) (l2 : Option Value) (l3 : Option Value) (a0 : Nat) (s : List Value) (h : am_H), am_E P 17 37 [some (.ref a0), l1, l2, l3] s h = am_E P 17 38 [some (.ref a0), l1, l2, l3] (.ref a0 :: s) h) ∧
  (∀ (P : Nat × Nat) (l1 : Option Value) (l2 : Option Value) (l3 : Option Value) (s : List Value) (h : am_H), am_E P 17 37 [some .null, l1, l2, l3] s h = am_E P 17 38 [some .null, l1, l2, l3] (.null :: s) h) ∧
  (∀ (P : Nat × Nat) (l0 : Option Value) (l1 : Option Value) (l2 : Option Value) (l3 : Option Value) (a0 : Nat) (s : List Value) (h : am_H), am_E P 17 38 [l0, l1, l2, l3] (.ref a0 :: s) h = (am_g1 h a0 4 8).bind (fun v => am_E P 17 41 [l0, l1, l2, l3] (v :: s) h)) ∧
  (∀ (P : Nat × Nat) (l0 : Option Value) (l1 : Option Value) (l2 : Option Value) (l3 : Option Value) (a0 : Nat) (v0 : Value) (h : am_H), am_E P 17 41 [l0, l1, l2, l3] [.ref a0, v0] h = if am_cls h a0 = some 3 then (am_E P 24 0 [some (.ref a0)] [] h).bind (fun q => am_E P 17 44 [l0, l1, l2, l3] (q.1.toList ++ [v0]) q.2) else none) ∧
  (∀ (P : Nat × Nat) (l0 : Option Value) (l1 : Option Value) (l2 : Option Value) (l3 : Option Value) (x0 : Int32) (x1 : Int32) (s : List Value) (h : am_H), am_E P 17 44 [l0, l1, l2, l3] (.int x1 :: .int x0 :: s) h = if x1 ≤ x0 then am_E P 17 104 [l0, l1, l2, l3] s h else am_E P 17 47 [l0, l1, l2, l3] s h) ∧
  (∀ (P : Nat × Nat) (l1 : Option Value) (l2 : Option Value) (l3 : Option Value) (a0 : Nat) (s : List Value) (h : am_H), am_E P 17 47 [some (.ref a0), l1, l2, l3] s h = am_E P 17 48 [some (.ref a0), l1, l2, l3] (.ref a0 :: s) h) ∧
  (∀ (P : Nat × Nat) (l1 : Option Value) (l2 : Option Value) (l3 : Option Value) (s : List Value) (h : am_H), am_E P 17 47 [some .null, l1, l2, l3] s h = am_E P 17 48 [some .null, l1, l2, l3] (.null :: s) h) ∧
  (∀ (P : Nat × Nat) (l1 : Option Value) (l2 : Option Value) (l3 : Option Value) (a0 : Nat) (s : List Value) (h : am_H), am_E P 17 48 [some (.ref a0), l1, l2, l3] s h = am_E P 17 49 [some (.ref a0), l1, l2, l3] (.ref a0 :: s) h) ∧
  (∀ (P : Nat × Nat) (l1 : Option Value) (l2 : Option Value) (l3 : Option Value) (s : List Value) (h : am_H), am_E P 17 48 [some .null, l1, l2, l3] s h = am_E P 17 49 [some .null, l1, l2, l3] (.null :: s) h) ∧
  (∀ (P : Nat × Nat) (l0 : Option Value) (l1 : Option Value) (l2 : Option Value) (l3 : Option Value) (a0 : Nat) (s : List Value) (h : am_H), am_E P 17 49 [l0, l1, l2, l3] (.ref a0 :: s) h = (am_g1 h a0 4 8).bind (fun v => am_E P 17 52 [l0, l1, l2, l3] (v :: s) h)) ∧
  (∀ (P : Nat × Nat) (l0 : Option Value) (l2 : Option Value) (l3 : Option Value) (x0 : Int32) (s : List Value) (h : am_H), am_E P 17 52 [l0, some (.int x0), l2, l3] s h = am_E P 17 53 [l0, some (.int x0), l2, l3] (.int x0 :: s) h) ∧
  (∀ (P : Nat × Nat) (l0 : Option Value) (l1 : Option Value) (l2 : Option Value) (l3 : Option Value) (s : List Value) (h : am_H), am_E P 17 53 [l0, l1, l2, l3] s h = am_E P 17 54 [l0, l1, l2, l3] (.int 2 :: s) h) ∧
  (∀ (P : Nat × Nat) (l0 : Option Value) (l1 : Option Value) (l2 : Option Value) (l3 : Option Value) (a0 : Nat) (x0 : Int32) (x1 : Int32) (v0 : Value) (h : am_H), am_E P 17 54 [l0, l1, l2, l3] [.int x1, .int x0, .ref a0, v0] h = if am_cls h a0 = some 3 then (am_E P 26 0 [some (.ref a0), some (.int x0), some (.int x1)] [] h).bind (fun q => am_E P 17 57 [l0, l1, l2, l3] (q.1.toList ++ [v0]) q.2) else none) ∧
  (∀ (P : Nat × Nat) (l0 : Option Value) (l1 : Option Value) (l2 : Option Value) (l3 : Option Value) (a0 : Nat) (x0 : Int32) (h : am_H), am_E P 17 57 [l0, l1, l2, l3] [.int x0, .ref a0] h = if am_cls h a0 = some 4 then (am_E P 12 0 [some (.ref a0), some (.int x0)] [] h).bind (fun q => am_E P 17 60 [l0, l1, l2, l3] (q.1.toList ++ []) q.2) else none) ∧
  (∀ (P : Nat × Nat) (l0 : Option Value) (l1 : Option Value) (l2 : Option Value) (l3 : Option Value) (a0 : Nat) (s : List Value) (h : am_H), am_E P 17 60 [l0, l1, l2, l3] (.ref a0 :: s) h = am_E P 17 61 [l0, l1, some (.ref a0), l3] s h) ∧
  (∀ (P : Nat × Nat) (l0 : Option Value) (l1 : Option Value) (l2 : Option Value) (l3 : Option Value) (s : List Value) (h : am_H), am_E P 17 60 [l0, l1, l2, l3] (.null :: s) h = am_E P 17 61 [l0, l1, some .null, l3] s h) ∧
  (∀ (P : Nat × Nat) (l0 : Option Value) (l1 : Option Value) (l2 : Option Value) (l3 : Option Value) (s : List Value) (h : am_H), am_E P 17 61 [l0, l1, l2, l3] s h = am_E P 17 62 [l0, l1, l2, l3] (.int 1 :: s) h) ∧
  (∀ (P : Nat × Nat) (l1 : Option Value) (l2 : Option Value) (l3 : Option Value) (a0 : Nat) (s : List Value) (h : am_H), am_E P 17 62 [some (.ref a0), l1, l2, l3] s h = am_E P 17 63 [some (.ref a0), l1, l2, l3] (.ref a0 :: s) h) ∧
  (∀ (P : Nat × Nat) (l1 : Option Value) (l2 : Option Value) (l3 : Option Value) (s : List Value) (h : am_H), am_E P 17 62 [some .null, l1, l2, l3] s h = am_E P 17 63 [some .null, l1, l2, l3] (.null :: s) h) ∧
  (∀ (P : Nat × Nat) (l0 : Option Value) (l1 : Option Value) (l2 : Option Value) (l3 : Option Value) (a0 : Nat) (s : List Value) (h : am_H), am_E P 17 63 [l0, l1, l2, l3] (.ref a0 :: s) h = (am_g1 h a0 4 8).bind (fun v => am_E P 17 66 [l0, l1, l2, l3] (v :: s) h)) ∧
  (∀ (P : Nat × Nat) (l0 : Option Value) (l2 : Option Value) (l3 : Option Value) (x0 : Int32) (s : List Value) (h : am_H), am_E P 17 66 [l0, some (.int x0), l2, l3] s h = am_E P 17 67 [l0, some (.int x0), l2, l3] (.int x0 :: s) h) ∧
  (∀ (P : Nat × Nat) (l0 : Option Value) (l1 : Option Value) (l2 : Option Value) (l3 : Option Value) (s : List Value) (h : am_H), am_E P 17 67 [l0, l1, l2, l3] s h = am_E P 17 68 [l0, l1, l2, l3] (.int 3 :: s) h) ∧
  (∀ (P : Nat × Nat) (l0 : Option Value) (l1 : Option Value) (l2 : Option Value) (l3 : Option Value) (a0 : Nat) (x0 : Int32) (x1 : Int32) (v0 : Value) (h : am_H), am_E P 17 68 [l0, l1, l2, l3] [.int x1, .int x0, .ref a0, v0] h = if am_cls h a0 = some 3 then (am_E P 26 0 [some (.ref a0), some (.int x0), some (.int x1)] [] h).bind (fun q => am_E P 17 71 [l0, l1, l2, l3] (q.1.toList ++ [v0]) q.2) else none) ∧
  (∀ (P : Nat × Nat) (l0 : Option Value) (l1 : Option Value) (l2 : Option Value) (l3 : Option Value) (x0 : Int32) (x1 : Int32) (s : List Value) (h : am_H), am_E P 17 71 [l0, l1, l2, l3] (.int x1 :: .int x0 :: s) h = am_E P 17 72 [l0, l1, l2, l3] (.int (x0 <<< (x1 &&& 31)) :: s) h) ∧
  (∀ (P : Nat × Nat) (l0 : Option Value) (l1 : Option Value) (l2 : Option Value) (l3 : Option Value) (x0 : Int32) (s : List Value) (h : am_H), am_E P 17 72 [l0, l1, l2, l3] (.int x0 :: s) h = am_E P 17 73 [l0, l1, l2, some (.int x0)] s h) ∧
  (∀ (P : Nat × Nat) (l0 : Option Value) (l1 : Option Value) (l3 : Option Value) (a0 : Nat) (s : List Value) (h : am_H), am_E P 17 73 [l0, l1, some (.ref a0), l3] s h = am_E P 17 74 [l0, l1, some (.ref a0), l3] (.ref a0 :: s) h) ∧
  (∀ (P : Nat × Nat) (l0 : Option Value) (l1 : Option Value) (l3 : Option Value) (s : List Value) (h : am_H), am_E P 17 73 [l0, l1, some .null, l3] s h = am_E P 17 74 [l0, l1, some .null, l3] (.null :: s) h) ∧
  (∀ (P : Nat × Nat) (l0 : Option Value) (l1 : Option Value) (l2 : Option Value) (l3 : Option Value) (a0 : Nat) (s : List Value) (h : am_H), am_E P 17 74 [l0, l1, l2, l3] (.ref a0 :: s) h = am_E P 17 77 [l0, l1, l2, l3] s h) ∧
  (∀ (P : Nat × Nat) (l0 : Option Value) (l1 : Option Value) (l2 : Option Value) (l3 : Option Value) (s : List Value) (h : am_H), am_E P 17 74 [l0, l1, l2, l3] (.null :: s) h = am_E P 17 86 [l0, l1, l2, l3] s h) ∧
  (∀ (P : Nat × Nat) (l0 : Option Value) (l1 : Option Value) (l3 : Option Value) (a0 : Nat) (s : List Value) (h : am_H), am_E P 17 77 [l0, l1, some (.ref a0), l3] s h = am_E P 17 78 [l0, l1, some (.ref a0), l3] (.ref a0 :: s) h) ∧
  (∀ (P : Nat × Nat) (l0 : Option Value) (l1 : Option Value) (l3 : Option Value) (s : List Value) (h : am_H), am_E P 17 77 [l0, l1, some .null, l3] s h = am_E P 17 78 [l0, l1, some .null, l3] (.null :: s) h) ∧
  (∀ (P : Nat × Nat) (l0 : Option Value) (l1 : Option Value) (l2 : Option Value) (l3 : Option Value) (a0 : Nat) (s : List Value) (h : am_H), am_E P 17 78 [l0, l1, l2, l3] (.ref a0 :: s) h = (am_g1 h a0 5 5).bind (fun v => am_E P 17 81 [l0, l1, l2, l3] (v :: s) h)) ∧
  (∀ (P : Nat × Nat) (l0 : Option Value) (l1 : Option Value) (l2 : Option Value) (x0 : Int32) (s : List Value) (h : am_H), am_E P 17 81 [l0, l1, l2, some (.int x0)] s h = am_E P 17 82 [l0, l1, l2, some (.int x0)] (.int x0 :: s) h) ∧
  (∀ (P : Nat × Nat) (l0 : Option Value) (l1 : Option Value) (l2 : Option Value) (l3 : Option Value) (x0 : Int32) (x1 : Int32) (s : List Value) (h : am_H), am_E P 17 82 [l0, l1, l2, l3] (.int x1 :: .int x0 :: s) h = am_E P 17 83 [l0, l1, l2, l3] (.int (x0 &&& x1) :: s) h) ∧
  (∀ (P : Nat × Nat) (l0 : Option Value) (l1 : Option Value) (l2 : Option Value) (l3 : Option Value) (x0 : Int32) (s : List Value) (h : am_H), am_E P 17 83 [l0, l1, l2, l3] (.int x0 :: s) h = if x0 = 0 then am_E P 17 88 [l0, l1, l2, l3] s h else am_E P 17 86 [l0, l1, l2, l3] s h) ∧
  (∀ (P : Nat × Nat) (l0 : Option Value) (l1 : Option Value) (l2 : Option Value) (l3 : Option Value) (s : List Value) (h : am_H), am_E P 17 86 [l0, l1, l2, l3] s h = am_E P 17 87 [l0, l1, l2, l3] (.int 0 :: s) h) ∧
  (∀ (P : Nat × Nat) (l0 : Option Value) (l1 : Option Value) (l2 : Option Value) (l3 : Option Value) (x0 : Int32) (h : am_H), am_E P 17 87 [l0, l1, l2, l3] [.int x0] h = if x0 = 0 ∨ x0 = 1 then some (some (.int x0), h) else none) ∧
  (∀ (P : Nat × Nat) (l0 : Option Value) (l1 : Option Value) (l3 : Option Value) (a0 : Nat) (s : List Value) (h : am_H), am_E P 17 88 [l0, l1, some (.ref a0), l3] s h = am_E P 17 89 [l0, l1, some (.ref a0), l3] (.ref a0 :: s) h) ∧
  (∀ (P : Nat × Nat) (l0 : Option Value) (l1 : Option Value) (l3 : Option Value) (s : List Value) (h : am_H), am_E P 17 88 [l0, l1, some .null, l3] s h = am_E P 17 89 [l0, l1, some .null, l3] (.null :: s) h) ∧
  (∀ (P : Nat × Nat) (l0 : Option Value) (l1 : Option Value) (l2 : Option Value) (l3 : Option Value) (a0 : Nat) (s : List Value) (h : am_H), am_E P 17 89 [l0, l1, l2, l3] (.ref a0 :: s) h = am_E P 17 90 [l0, l1, l2, l3] (.ref a0 :: .ref a0 :: s) h) ∧
  (∀ (P : Nat × Nat) (l0 : Option Value) (l1 : Option Value) (l2 : Option Value) (l3 : Option Value) (a0 : Nat) (s : List Value) (h : am_H), am_E P 17 90 [l0, l1, l2, l3] (.ref a0 :: s) h = (am_g1 h a0 5 5).bind (fun v => am_E P 17 93 [l0, l1, l2, l3] (v :: s) h)) ∧
  (∀ (P : Nat × Nat) (l0 : Option Value) (l1 : Option Value) (l2 : Option Value) (x0 : Int32) (s : List Value) (h : am_H), am_E P 17 93 [l0, l1, l2, some (.int x0)] s h = am_E P 17 94 [l0, l1, l2, some (.int x0)] (.int x0 :: s) h) ∧
  (∀ (P : Nat × Nat) (l0 : Option Value) (l1 : Option Value) (l2 : Option Value) (l3 : Option Value) (x0 : Int32) (x1 : Int32) (s : List Value) (h : am_H), am_E P 17 94 [l0, l1, l2, l3] (.int x1 :: .int x0 :: s) h = am_E P 17 95 [l0, l1, l2, l3] (.int (x0 ||| x1) :: s) h) ∧
  (∀ (P : Nat × Nat) (l0 : Option Value) (l1 : Option Value) (l2 : Option Value) (l3 : Option Value) (a0 : Nat) (x0 : Int32) (s : List Value) (h : am_H), am_E P 17 95 [l0, l1, l2, l3] (.int x0 :: .ref a0 :: s) h = (am_p1 h a0 5 5 (.int x0)).bind (fun h => am_E P 17 98 [l0, l1, l2, l3] s h)) ∧
  (∀ (P : Nat × Nat) (l0 : Option Value) (l2 : Option Value) (l3 : Option Value) (x0 : Int32) (s : List Value) (h : am_H), am_E P 17 98 [l0, some (.int x0), l2, l3] s h = am_E P 17 101 [l0, some (.int (x0 + 1)), l2, l3] s h) ∧
  (∀ (P : Nat × Nat) (l0 : Option Value) (l1 : Option Value) (l2 : Option Value) (l3 : Option Value) (s : List Value) (h : am_H), am_E P 17 101 [l0, l1, l2, l3] s h = am_E P 17 36 [l0, l1, l2, l3] s h) ∧
  (∀ (P : Nat × Nat) (l0 : Option Value) (l1 : Option Value) (l2 : Option Value) (l3 : Option Value) (s : List Value) (h : am_H), am_E P 17 104 [l0, l1, l2, l3] s h = am_E P 17 105 [l0, l1, l2, l3] (.int 1 :: s) h) ∧
  (∀ (P : Nat × Nat) (l0 : Option Value) (l1 : Option Value) (l2 : Option Value) (l3 : Option Value) (x0 : Int32) (h : am_H), am_E P 17 105 [l0, l1, l2, l3] [.int x0] h = if x0 = 0 ∨ x0 = 1 then some (some (.int x0), h) else none) :=
  ⟨fun _ _ _ _ _ _ _ => er_go rfl rfl,
  fun _ _ _ _ _ _ _ _ => er_go rfl rfl,
  fun _ _ _ _ _ _ _ => er_go rfl rfl,
  fun _ _ _ _ _ _ => er_go rfl rfl,
  fun _ _ _ _ _ _ _ _ => er_get1 rfl,
  fun _ _ _ _ _ _ _ _ => er_callV rfl rfl rfl rfl,
  fun _ _ _ _ _ _ _ _ _ => er_ic_ge rfl,
  fun _ _ _ _ _ _ _ => er_go rfl rfl,
  fun _ _ _ _ _ _ => er_go rfl rfl,
  fun _ _ _ _ _ _ _ _ => er_get1 rfl,
  fun _ _ _ _ _ _ _ => er_go rfl rfl,
  fun _ _ _ _ _ _ _ _ => er_callV rfl rfl rfl rfl,
  fun _ _ _ _ _ _ _ _ => er_cast rfl,
  fun _ _ _ _ _ _ _ => er_go rfl rfl,
  fun _ _ _ _ _ _ _ => er_go rfl rfl,
  fun _ _ _ _ _ _ _ _ _ => er_put1 rfl rfl,
  fun _ _ _ _ _ _ _ => er_go rfl rfl,
  fun _ _ _ _ _ _ _ => er_go rfl rfl,
  fun _ _ _ _ _ _ _ => er_go rfl rfl,
  fun _ _ _ _ _ _ _ _ => er_go rfl rfl,
  fun _ _ _ _ _ _ _ => er_go rfl rfl,
  fun _ _ _ _ _ _ => er_go rfl rfl,
  fun _ _ _ _ _ _ _ _ => er_get1 rfl,
  fun _ _ _ _ _ _ _ _ => er_callV rfl rfl rfl rfl,
  fun _ _ _ _ _ _ _ _ _ => er_ic_ge rfl,
  fun _ _ _ _ _ _ _ => er_go rfl rfl,
  fun _ _ _ _ _ _ => er_go rfl rfl,
  fun _ _ _ _ _ _ _ => er_go rfl rfl,
  fun _ _ _ _ _ _ => er_go rfl rfl,
  fun _ _ _ _ _ _ _ _ => er_get1 rfl,
  fun _ _ _ _ _ _ _ => er_go rfl rfl,
  fun _ _ _ _ _ _ _ => er_go rfl rfl,
  fun _ _ _ _ _ _ _ _ _ _ => er_callV rfl rfl rfl rfl,
  fun _ _ _ _ _ _ _ _ => er_callV rfl rfl rfl rfl,
  fun _ _ _ _ _ _ _ _ => er_go rfl rfl,
  fun _ _ _ _ _ _ _ => er_go rfl rfl,
  fun _ _ _ _ _ _ _ => er_go rfl rfl,
  fun _ _ _ _ _ _ _ => er_go rfl rfl,
  fun _ _ _ _ _ _ => er_go rfl rfl,
  fun _ _ _ _ _ _ _ _ => er_get1 rfl,
  fun _ _ _ _ _ _ _ => er_go rfl rfl,
  fun _ _ _ _ _ _ _ => er_go rfl rfl,
  fun _ _ _ _ _ _ _ _ _ _ => er_callV rfl rfl rfl rfl,
  fun _ _ _ _ _ _ _ _ _ => er_go rfl rfl,
  fun _ _ _ _ _ _ _ _ => er_go rfl rfl,
  fun _ _ _ _ _ _ _ => er_go rfl rfl,
  fun _ _ _ _ _ _ => er_go rfl rfl,
  fun _ _ _ _ _ _ _ _ => er_go rfl rfl,
  fun _ _ _ _ _ _ _ => er_go rfl rfl,
  fun _ _ _ _ _ _ _ => er_go rfl rfl,
  fun _ _ _ _ _ _ => er_go rfl rfl,
  fun _ _ _ _ _ _ _ _ => er_get1 rfl,
  fun _ _ _ _ _ _ _ => er_go rfl rfl,
  fun _ _ _ _ _ _ _ _ _ => er_go rfl rfl,
  fun _ _ _ _ _ _ _ _ => er_if_eq rfl,
  fun _ _ _ _ _ _ _ => er_go rfl rfl,
  fun _ _ _ _ _ _ _ => er_retZ rfl rfl,
  fun _ _ _ _ _ _ _ => er_go rfl rfl,
  fun _ _ _ _ _ _ => er_go rfl rfl,
  fun _ _ _ _ _ _ _ _ => er_go rfl rfl,
  fun _ _ _ _ _ _ _ _ => er_get1 rfl,
  fun _ _ _ _ _ _ _ => er_go rfl rfl,
  fun _ _ _ _ _ _ _ _ _ => er_go rfl rfl,
  fun _ _ _ _ _ _ _ _ _ => er_put1 rfl rfl,
  fun _ _ _ _ _ _ _ => er_go rfl rfl,
  fun _ _ _ _ _ _ _ => er_go rfl rfl,
  fun _ _ _ _ _ _ _ => er_go rfl rfl,
  fun _ _ _ _ _ _ _ => er_retZ rfl rfl⟩
theorem hd17_2 : ∀ (P : Nat × Nat) (l0 : Option Value) (l2 : Option Value) (l3 : Option Value) (x0 : Int32) (s : List Value) (h : am_H), am_E P 17 2 [l0, some (.int x0), l2, l3] s h = am_E P 17 3 [l0, some (.int x0), l2, l3] (.int x0 :: s) h := fun _ _ _ _ _ _ _ => er_go rfl rfl
theorem hd17_36 : ∀ (P : Nat × Nat) (l0 : Option Value) (l2 : Option Value) (l3 : Option Value) (x0 : Int32) (s : List Value) (h : am_H), am_E P 17 36 [l0, some (.int x0), l2, l3] s h = am_E P 17 37 [l0, some (.int x0), l2, l3] (.int x0 :: s) h := fun _ _ _ _ _ _ _ => er_go rfl rfl
/-- TwoStepOutputs$Output.showsPartsWhole()Z -/
theorem r18 : (∀ (P : Nat × Nat) (l1 : Option Value) (l2 : Option Value) (a0 : Nat) (s : List Value) (h : am_H), am_E P 18 0 [some (.ref a0), l1, l2] s h = am_E P 18 1 [some (.ref a0), l1, l2] (.ref a0 :: s) h) ∧
  (∀ (P : Nat × Nat) (l1 : Option Value) (l2 : Option Value) (s : List Value) (h : am_H), am_E P 18 0 [some .null, l1, l2] s h = am_E P 18 1 [some .null, l1, l2] (.null :: s) h) ∧
  (∀ (P : Nat × Nat) (l0 : Option Value) (l1 : Option Value) (l2 : Option Value) (a0 : Nat) (s : List Value) (h : am_H), am_E P 18 1 [l0, l1, l2] (.ref a0 :: s) h = (am_g1 h a0 4 1).bind (fun v => am_E P 18 4 [l0, l1, l2] (v :: s) h)) ∧
  (∀ (P : Nat × Nat) (l0 : Option Value) (l1 : Option Value) (l2 : Option Value) (x0 : Int32) (s : List Value) (h : am_H), am_E P 18 4 [l0, l1, l2] (.int x0 :: s) h = if x0 = 0 then am_E P 18 9 [l0, l1, l2] s h else am_E P 18 7 [l0, l1, l2] s h) ∧
  (∀ (P : Nat × Nat) (l0 : Option Value) (l1 : Option Value) (l2 : Option Value) (s : List Value) (h : am_H), am_E P 18 7 [l0, l1, l2] s h = am_E P 18 8 [l0, l1, l2] (.int 1 :: s) h) ∧
  (∀ (P : Nat × Nat) (l0 : Option Value) (l1 : Option Value) (l2 : Option Value) (x0 : Int32) (h : am_H), am_E P 18 8 [l0, l1, l2] [.int x0] h = if x0 = 0 ∨ x0 = 1 then some (some (.int x0), h) else none) ∧
  (∀ (P : Nat × Nat) (l0 : Option Value) (l1 : Option Value) (l2 : Option Value) (s : List Value) (h : am_H), am_E P 18 9 [l0, l1, l2] s h = am_E P 18 10 [l0, l1, l2] (.int 0 :: s) h) ∧
  (∀ (P : Nat × Nat) (l0 : Option Value) (l1 : Option Value) (l2 : Option Value) (x0 : Int32) (s : List Value) (h : am_H), am_E P 18 10 [l0, l1, l2] (.int x0 :: s) h = am_E P 18 11 [l0, some (.int x0), l2] s h) ∧
  (∀ (P : Nat × Nat) (l1 : Option Value) (l2 : Option Value) (a0 : Nat) (s : List Value) (h : am_H), am_E P 18 12 [some (.ref a0), l1, l2] s h = am_E P 18 13 [some (.ref a0), l1, l2] (.ref a0 :: s) h) ∧
  (∀ (P : Nat × Nat) (l1 : Option Value) (l2 : Option Value) (s : List Value) (h : am_H), am_E P 18 12 [some .null, l1, l2] s h = am_E P 18 13 [some .null, l1, l2] (.null :: s) h) ∧
  (∀ (P : Nat × Nat) (l0 : Option Value) (l1 : Option Value) (l2 : Option Value) (a0 : Nat) (s : List Value) (h : am_H), am_E P 18 13 [l0, l1, l2] (.ref a0 :: s) h = (am_g1 h a0 4 5).bind (fun v => am_E P 18 16 [l0, l1, l2] (v :: s) h)) ∧
  (∀ (P : Nat × Nat) (l0 : Option Value) (l1 : Option Value) (l2 : Option Value) (a0 : Nat) (v0 : Value) (h : am_H), am_E P 18 16 [l0, l1, l2] [.ref a0, v0] h = if am_cls h a0 = some 0 then (am_E P 118 0 [some (.ref a0)] [] h).bind (fun q => am_E P 18 19 [l0, l1, l2] (q.1.toList ++ [v0]) q.2) else none) ∧
  (∀ (P : Nat × Nat) (l0 : Option Value) (l1 : Option Value) (l2 : Option Value) (x0 : Int32) (x1 : Int32) (s : List Value) (h : am_H), am_E P 18 19 [l0, l1, l2] (.int x1 :: .int x0 :: s) h = if x1 ≤ x0 then am_E P 18 43 [l0, l1, l2] s h else am_E P 18 22 [l0, l1, l2] s h) ∧
  (∀ (P : Nat × Nat) (l1 : Option Value) (l2 : Option Value) (a0 : Nat) (s : List Value) (h : am_H), am_E P 18 22 [some (.ref a0), l1, l2] s h = am_E P 18 23 [some (.ref a0), l1, l2] (.ref a0 :: s) h) ∧
  (∀ (P : Nat × Nat) (l1 : Option Value) (l2 : Option Value) (s : List Value) (h : am_H), am_E P 18 22 [some .null, l1, l2] s h = am_E P 18 23 [some .null, l1, l2] (.null :: s) h) ∧
  (∀ (P : Nat × Nat) (l0 : Option Value) (l1 : Option Value) (l2 : Option Value) (a0 : Nat) (s : List Value) (h : am_H), am_E P 18 23 [l0, l1, l2] (.ref a0 :: s) h = (am_g1 h a0 4 5).bind (fun v => am_E P 18 26 [l0, l1, l2] (v :: s) h)) ∧
  (∀ (P : Nat × Nat) (l0 : Option Value) (l2 : Option Value) (x0 : Int32) (s : List Value) (h : am_H), am_E P 18 26 [l0, some (.int x0), l2] s h = am_E P 18 27 [l0, some (.int x0), l2] (.int x0 :: s) h) ∧
  (∀ (P : Nat × Nat) (l0 : Option Value) (l1 : Option Value) (l2 : Option Value) (a0 : Nat) (x0 : Int32) (h : am_H), am_E P 18 27 [l0, l1, l2] [.int x0, .ref a0] h = if am_cls h a0 = some 0 then (am_E P 120 0 [some (.ref a0), some (.int x0)] [] h).bind (fun q => am_E P 18 30 [l0, l1, l2] (q.1.toList ++ []) q.2) else none) ∧
  (∀ (P : Nat × Nat) (l0 : Option Value) (l1 : Option Value) (l2 : Option Value) (a0 : Nat) (s : List Value) (h : am_H), am_E P 18 30 [l0, l1, l2] (.ref a0 :: s) h = if am_cls h a0 = some 5 then am_E P 18 33 [l0, l1, l2] (.ref a0 :: s) h else none) ∧
  (∀ (P : Nat × Nat) (l0 : Option Value) (l1 : Option Value) (l2 : Option Value) (s : List Value) (h : am_H), am_E P 18 30 [l0, l1, l2] (.null :: s) h = am_E P 18 33 [l0, l1, l2] (.null :: s) h) ∧
  (∀ (P : Nat × Nat) (l0 : Option Value) (l1 : Option Value) (l2 : Option Value) (s : List Value) (h : am_H), am_E P 18 33 [l0, l1, l2] s h = am_E P 18 34 [l0, l1, l2] (.int 0 :: s) h) ∧
  (∀ (P : Nat × Nat) (l0 : Option Value) (l1 : Option Value) (l2 : Option Value) (a0 : Nat) (x0 : Int32) (s : List Value) (h : am_H), am_E P 18 34 [l0, l1, l2] (.int x0 :: .ref a0 :: s) h = (am_p1 h a0 5 6 (.int x0)).bind (fun h => am_E P 18 37 [l0, l1, l2] s h)) ∧
  (∀ (P : Nat × Nat) (l0 : Option Value) (l2 : Option Value) (x0 : Int32) (s : List Value) (h : am_H), am_E P 18 37 [l0, some (.int x0), l2] s h = am_E P 18 40 [l0, some (.int (x0 + 1)), l2] s h) ∧
  (∀ (P : Nat × Nat) (l0 : Option Value) (l1 : Option Value) (l2 : Option Value) (s : List Value) (h : am_H), am_E P 18 40 [l0, l1, l2] s h = am_E P 18 11 [l0, l1, l2] s h) ∧
  (∀ (P : Nat × Nat) (l0 : Option Value) (l1 : Option Value) (l2 : Option Value) (s : List Value) (h : am_H), am_E P 18 43 [l0, l1, l2] s h = am_E P 18 44 [l0, l1, l2] (.int 0 :: s) h) ∧
  (∀ (P : Nat × Nat) (l0 : Option Value) (l1 : Option Value) (l2 : Option Value) (x0 : Int32) (s : List Value) (h : am_H), am_E P 18 44 [l0, l1, l2] (.int x0 :: s) h = am_E P 18 45 [l0, some (.int x0), l2] s h) ∧
  (∀ (P : Nat × Nat) (l1 : Option Value) (l2 : Option Value) (a0 : Nat) (s : List Value) (h : am_H), am_E P 18 46 [some (.ref a0), l1, l2] s h = am_E P 18 47 [some (.ref a0), l1, l2] (.ref a0 :: s) h) ∧
  (∀ (P : Nat × Nat) (l1 : Option Value) (l2 : Option Value) (s : List Value) (h : am_H), am_E P 18 46 [some .null, l1, l2] s h = am_E P 18 47 [some .null, l1, l2] (.null :: s) h) ∧
  (∀ (P : Nat × Nat) (l0 : Option Value) (l1 : Option Value) (l2 : Option Value) (a0 : Nat) (s : List Value) (h : am_H), am_E P 18 47 [l0, l1, l2] (.ref a0 :: s) h = (am_g1 h a0 4 8).bind (fun v => am_E P 18 50 [l0, l1, l2] (v :: s) h)) ∧
  (∀ (P : Nat × Nat) (l0 : Option Value) (l1 : Option Value) (l2 : Option Value) (a0 : Nat) (v0 : Value) (h : am_H), am_E P 18 50 [l0, l1, l2] [.ref a0, v0] h = if am_cls h a0 = some 3 then (am_E P 24 0 [some (.ref a0)] [] h).bind (fun q => am_E P 18 53 [l0, l1, l2] (q.1.toList ++ [v0]) q.2) else none) ∧
  (∀ (P : Nat × Nat) (l0 : Option Value) (l1 : Option Value) (l2 : Option Value) (x0 : Int32) (x1 : Int32) (s : List Value) (h : am_H), am_E P 18 53 [l0, l1, l2] (.int x1 :: .int x0 :: s) h = if x1 ≤ x0 then am_E P 18 106 [l0, l1, l2] s h else am_E P 18 56 [l0, l1, l2] s h) ∧
  (∀ (P : Nat × Nat) (l1 : Option Value) (l2 : Option Value) (a0 : Nat) (s : List Value) (h : am_H), am_E P 18 56 [some (.ref a0), l1, l2] s h = am_E P 18 57 [some (.ref a0), l1, l2] (.ref a0 :: s) h) ∧
  (∀ (P : Nat × Nat) (l1 : Option Value) (l2 : Option Value) (s : List Value) (h : am_H), am_E P 18 56 [some .null, l1, l2] s h = am_E P 18 57 [some .null, l1, l2] (.null :: s) h) ∧
  (∀ (P : Nat × Nat) (l1 : Option Value) (l2 : Option Value) (a0 : Nat) (s : List Value) (h : am_H), am_E P 18 57 [some (.ref a0), l1, l2] s h = am_E P 18 58 [some (.ref a0), l1, l2] (.ref a0 :: s) h) ∧
  (∀ (P : Nat × Nat) (l1 : Option Value) (l2 : Option Value) (s : List Value) (h : am_H), am_E P 18 57 [some .null, l1, l2] s h = am_E P 18 58 [some .null, l1, l2] (.null :: s) h) ∧
  (∀ (P : Nat × Nat) (l0 : Option Value) (l1 : Option Value) (l2 : Option Value) (a0 : Nat) (s : List Value) (h : am_H), am_E P 18 58 [l0, l1, l2] (.ref a0 :: s) h = (am_g1 h a0 4 8).bind (fun v => am_E P 18 61 [l0, l1, l2] (v :: s) h)) ∧
  (∀ (P : Nat × Nat) (l0 : Option Value) (l2 : Option Value) (x0 : Int32) (s : List Value) (h : am_H), am_E P 18 61 [l0, some (.int x0), l2] s h = am_E P 18 62 [l0, some (.int x0), l2] (.int x0 :: s) h) ∧
  (∀ (P : Nat × Nat) (l0 : Option Value) (l1 : Option Value) (l2 : Option Value) (s : List Value) (h : am_H), am_E P 18 62 [l0, l1, l2] s h = am_E P 18 63 [l0, l1, l2] (.int 2 :: s) h) ∧
  (∀ (P : Nat × Nat) (l0 : Option Value) (l1 : Option Value) (l2 : Option Value) (a0 : Nat) (x0 : Int32) (x1 : Int32) (v0 : Value) (h : am_H), am_E P 18 63 [l0, l1, l2] [.int x1, .int x0, .ref a0, v0] h = if am_cls h a0 = some 3 then (am_E P 26 0 [some (.ref a0), some (.int x0), some (.int x1)] [] h).bind (fun q => am_E P 18 66 [l0, l1, l2] (q.1.toList ++ [v0]) q.2) else none) ∧
  (∀ (P : Nat × Nat) (l0 : Option Value) (l1 : Option Value) (l2 : Option Value) (a0 : Nat) (x0 : Int32) (h : am_H), am_E P 18 66 [l0, l1, l2] [.int x0, .ref a0] h = if am_cls h a0 = some 4 then (am_E P 12 0 [some (.ref a0), some (.int x0)] [] h).bind (fun q => am_E P 18 69 [l0, l1, l2] (q.1.toList ++ []) q.2) else none) ∧
  (∀ (P : Nat × Nat) (l0 : Option Value) (l1 : Option Value) (l2 : Option Value) (a0 : Nat) (s : List Value) (h : am_H), am_E P 18 69 [l0, l1, l2] (.ref a0 :: s) h = am_E P 18 70 [l0, l1, some (.ref a0)] s h) ∧
  (∀ (P : Nat × Nat) (l0 : Option Value) (l1 : Option Value) (l2 : Option Value) (s : List Value) (h : am_H), am_E P 18 69 [l0, l1, l2] (.null :: s) h = am_E P 18 70 [l0, l1, some .null] s h) ∧
  (∀ (P : Nat × Nat) (l0 : Option Value) (l1 : Option Value) (a0 : Nat) (s : List Value) (h : am_H), am_E P 18 70 [l0, l1, some (.ref a0)] s h = am_E P 18 71 [l0, l1, some (.ref a0)] (.ref a0 :: s) h) ∧
  (∀ (P : Nat × Nat) (l0 : Option Value) (l1 : Option Value) (s : List Value) (h : am_H), am_E P 18 70 [l0, l1, some .null] s h = am_E P 18 71 [l0, l1, some .null] (.null :: s) h) ∧
  (∀ (P : Nat × Nat) (l0 : Option Value) (l1 : Option Value) (l2 : Option Value) (a0 : Nat) (s : List Value) (h : am_H), am_E P 18 71 [l0, l1, l2] (.ref a0 :: s) h = am_E P 18 74 [l0, l1, l2] s h) ∧
  (∀ (P : Nat × Nat) (l0 : Option Value) (l1 : Option Value) (l2 : Option Value) (s : List Value) (h : am_H), am_E P 18 71 [l0, l1, l2] (.null :: s) h = am_E P 18 100 [l0, l1, l2] s h) ∧
  (∀ (P : Nat × Nat) (l0 : Option Value) (l1 : Option Value) (a0 : Nat) (s : List Value) (h : am_H), am_E P 18 74 [l0, l1, some (.ref a0)] s h = am_E P 18 75 [l0, l1, some (.ref a0)] (.ref a0 :: s) h) ∧
  (∀ (P : Nat × Nat) (l0 : Option Value) (l1 : Option Value) (s : List Value) (h : am_H), am_E P 18 74 [l0, l1, some .null] s h = am_E P 18 75 [l0, l1, some .null] (.null :: s) h) ∧
  (∀ (P : Nat × Nat) (l0 : Option Value) (l1 : Option Value) (l2 : Option Value) (a0 : Nat) (s : List Value) (h : am_H), am_E P 18 75 [l0, l1, l2] (.ref a0 :: s) h = (am_g1 h a0 5 6).bind (fun v => am_E P 18 78 [l0, l1, l2] (v :: s) h)) ∧
  (∀ (P : Nat × Nat) (l1 : Option Value) (l2 : Option Value) (a0 : Nat) (s : List Value) (h : am_H), am_E P 18 78 [some (.ref a0), l1, l2] s h = am_E P 18 79 [some (.ref a0), l1, l2] (.ref a0 :: s) h) ∧
  (∀ (P : Nat × Nat) (l1 : Option Value) (l2 : Option Value) (s : List Value) (h : am_H), am_E P 18 78 [some .null, l1, l2] s h = am_E P 18 79 [some .null, l1, l2] (.null :: s) h) ∧
  (∀ (P : Nat × Nat) (l0 : Option Value) (l1 : Option Value) (l2 : Option Value) (a0 : Nat) (s : List Value) (h : am_H), am_E P 18 79 [l0, l1, l2] (.ref a0 :: s) h = (am_g1 h a0 4 8).bind (fun v => am_E P 18 82 [l0, l1, l2] (v :: s) h)) ∧
  (∀ (P : Nat × Nat) (l0 : Option Value) (l2 : Option Value) (x0 : Int32) (s : List Value) (h : am_H), am_E P 18 82 [l0, some (.int x0), l2] s h = am_E P 18 83 [l0, some (.int x0), l2] (.int x0 :: s) h) ∧
  (∀ (P : Nat × Nat) (l0 : Option Value) (l1 : Option Value) (l2 : Option Value) (s : List Value) (h : am_H), am_E P 18 83 [l0, l1, l2] s h = am_E P 18 84 [l0, l1, l2] (.int 3 :: s) h) ∧
  (∀ (P : Nat × Nat) (l0 : Option Value) (l1 : Option Value) (l2 : Option Value) (a0 : Nat) (x0 : Int32) (x1 : Int32) (v0 : Value) (h : am_H), am_E P 18 84 [l0, l1, l2] [.int x1, .int x0, .ref a0, v0] h = if am_cls h a0 = some 3 then (am_E P 26 0 [some (.ref a0), some (.int x0), some (.int x1)] [] h).bind (fun q => am_E P 18 87 [l0, l1, l2] (q.1.toList ++ [v0]) q.2) else none) ∧
  (∀ (P : Nat × Nat) (l0 : Option Value) (l1 : Option Value) (l2 : Option Value) (x0 : Int32) (x1 : Int32) (s : List Value) (h : am_H), am_E P 18 87 [l0, l1, l2] (.int x1 :: .int x0 :: s) h = if x0 = x1 then am_E P 18 90 [l0, l1, l2] s h else am_E P 18 100 [l0, l1, l2] s h) ∧
  (∀ (P : Nat × Nat) (l0 : Option Value) (l1 : Option Value) (a0 : Nat) (s : List Value) (h : am_H), am_E P 18 90 [l0, l1, some (.ref a0)] s h = am_E P 18 91 [l0, l1, some (.ref a0)] (.ref a0 :: s) h) ∧
  (∀ (P : Nat × Nat) (l0 : Option Value) (l1 : Option Value) (s : List Value) (h : am_H), am_E P 18 90 [l0, l1, some .null] s h = am_E P 18 91 [l0, l1, some .null] (.null :: s) h) ∧
  (∀ (P : Nat × Nat) (l0 : Option Value) (l1 : Option Value) (l2 : Option Value) (a0 : Nat) (s : List Value) (h : am_H), am_E P 18 91 [l0, l1, l2] (.ref a0 :: s) h = am_E P 18 92 [l0, l1, l2] (.ref a0 :: .ref a0 :: s) h) ∧
  (∀ (P : Nat × Nat) (l0 : Option Value) (l1 : Option Value) (l2 : Option Value) (a0 : Nat) (s : List Value) (h : am_H), am_E P 18 92 [l0, l1, l2] (.ref a0 :: s) h = (am_g1 h a0 5 6).bind (fun v => am_E P 18 95 [l0, l1, l2] (v :: s) h)) ∧
  (∀ (P : Nat × Nat) (l0 : Option Value) (l1 : Option Value) (l2 : Option Value) (s : List Value) (h : am_H), am_E P 18 95 [l0, l1, l2] s h = am_E P 18 96 [l0, l1, l2] (.int 1 :: s) h) ∧
  (∀ (P : Nat × Nat) (l0 : Option Value) (l1 : Option Value) (l2 : Option Value) (x0 : Int32) (x1 : Int32) (s : List Value) (h : am_H), am_E P 18 96 [l0, l1, l2] (.int x1 :: .int x0 :: s) h = am_E P 18 97 [l0, l1, l2] (.int (x0 + x1) :: s) h) ∧
  (∀ (P : Nat × Nat) (l0 : Option Value) (l1 : Option Value) (l2 : Option Value) (a0 : Nat) (x0 : Int32) (s : List Value) (h : am_H), am_E P 18 97 [l0, l1, l2] (.int x0 :: .ref a0 :: s) h = (am_p1 h a0 5 6 (.int x0)).bind (fun h => am_E P 18 100 [l0, l1, l2] s h)) ∧
  (∀ (P : Nat × Nat) (l0 : Option Value) (l2 : Option Value) (x0 : Int32) (s : List Value) (h : am_H), am_E P 18 100 [l0, some (.int x0), l2] s h = am_E P 18 103 [l0, some (.int (x0 + 1)), l2] s h) ∧
  (∀ (P : Nat × Nat) (l0 : Option Value) (l1 : Option Value) (l2 : Option Value) (s : List Value) (h : am_H), am_E P 18 103 [l0, l1, l2] s h = am_E P 18 45 [l0, l1, l2] s h) ∧
  (∀ (P : Nat × Nat) (l0 : Option Value) (l1 : Option Value) (l2 : Option Value) (s : List Value) (h : am_H), am_E P 18 106 [l0, l1, l2] s h = am_E P 18 107 [l0, l1, l2] (.int 0 :: s) h) ∧
  (∀ (P : Nat × Nat) (l0 : Option Value) (l1 : Option Value) (l2 : Option Value) (x0 : Int32) (s : List Value) (h : am_H), am_E P 18 107 [l0, l1, l2] (.int x0 :: s) h = am_E P 18 108 [l0, some (.int x0), l2] s h) ∧
  (∀ (P : Nat × Nat) (l1 : Option Value) (l2 : Option Value) (a0 : Nat) (s : List Value) (h : am_H), am_E P 18 109 [some (.ref a0), l1, l2] s h = am_E P 18 110 [some (.ref a0), l1, l2] (.ref a0 :: s) h) ∧
  (∀ (P : Nat × Nat) (l1 : Option Value) (l2 : Option Value) (s : List Value) (h : am_H), am_E P 18 109 [some .null, l1, l2] s h = am_E P 18 110 [some .null, l1, l2] (.null :: s) h) ∧
  (∀ (P : Nat × Nat) (l0 : Option Value) (l1 : Option Value) (l2 : Option Value) (a0 : Nat) (s : List Value) (h : am_H), am_E P 18 110 [l0, l1, l2] (.ref a0 :: s) h = (am_g1 h a0 4 5).bind (fun v => am_E P 18 113 [l0, l1, l2] (v :: s) h)) ∧
  (∀ (P : Nat × Nat) (l0 : Option Value) (l1 : Option Value) (l2 : Option Value) (a0 : Nat) (v0 : Value) (h : am_H), am_E P 18 113 [l0, l1, l2] [.ref a0, v0] h = if am_cls h a0 = some 0 then (am_E P 118 0 [some (.ref a0)] [] h).bind (fun q => am_E P 18 116 [l0, l1, l2] (q.1.toList ++ [v0]) q.2) else none) ∧
  (∀ (P : Nat × Nat) (l0 : Option Value) (l1 : Option Value) (l2 : Option Value) (x0 : Int32) (x1 : Int32) (s : List Value) (h : am_H), am_E P 18 116 [l0, l1, l2] (.int x1 :: .int x0 :: s) h = if x1 ≤ x0 then am_E P 18 158 [l0, l1, l2] s h else am_E P 18 119 [l0, l1, l2] s h) ∧
  (∀ (P : Nat × Nat) (l1 : Option Value) (l2 : Option Value) (a0 : Nat) (s : List Value) (h : am_H), am_E P 18 119 [some (.ref a0), l1, l2] s h = am_E P 18 120 [some (.ref a0), l1, l2] (.ref a0 :: s) h) ∧
  (∀ (P : Nat × Nat) (l1 : Option Value) (l2 : Option Value) (s : List Value) (h : am_H), am_E P 18 119 [some .null, l1, l2] s h = am_E P 18 120 [some .null, l1, l2] (.null :: s) h) ∧
  (∀ (P : Nat × Nat) (l0 : Option Value) (l1 : Option Value) (l2 : Option Value) (a0 : Nat) (s : List Value) (h : am_H), am_E P 18 120 [l0, l1, l2] (.ref a0 :: s) h = (am_g1 h a0 4 5).bind (fun v => am_E P 18 123 [l0, l1, l2] (v :: s) h)) ∧
  (∀ (P : Nat × Nat) (l0 : Option Value) (l2 : Option Value) (x0 : Int32) (s : List Value) (h : am_H), am_E P 18 123 [l0, some (.int x0), l2] s h = am_E P 18 124 [l0, some (.int x0), l2] (.int x0 :: s) h) ∧
  (∀ (P : Nat × Nat) (l0 : Option Value) (l1 : Option Value) (l2 : Option Value) (a0 : Nat) (x0 : Int32) (h : am_H), am_E P 18 124 [l0, l1, l2] [.int x0, .ref a0] h = if am_cls h a0 = some 0 then (am_E P 120 0 [some (.ref a0), some (.int x0)] [] h).bind (fun q => am_E P 18 127 [l0, l1, l2] (q.1.toList ++ []) q.2) else none) ∧
  (∀ (P : Nat × Nat) (l0 : Option Value) (l1 : Option Value) (l2 : Option Value) (a0 : Nat) (s : List Value) (h : am_H), am_E P 18 127 [l0, l1, l2] (.ref a0 :: s) h = if am_cls h a0 = some 5 then am_E P 18 130 [l0, l1, l2] (.ref a0 :: s) h else none) ∧
  (∀ (P : Nat × Nat) (l0 : Option Value) (l1 : Option Value) (l2 : Option Value) (s : List Value) (h : am_H), am_E P 18 127 [l0, l1, l2] (.null :: s) h = am_E P 18 130 [l0, l1, l2] (.null :: s) h) ∧
  (∀ (P : Nat × Nat) (l0 : Option Value) (l1 : Option Value) (l2 : Option Value) (a0 : Nat) (s : List Value) (h : am_H), am_E P 18 130 [l0, l1, l2] (.ref a0 :: s) h = am_E P 18 131 [l0, l1, some (.ref a0)] s h) ∧
  (∀ (P : Nat × Nat) (l0 : Option Value) (l1 : Option Value) (l2 : Option Value) (s : List Value) (h : am_H), am_E P 18 130 [l0, l1, l2] (.null :: s) h = am_E P 18 131 [l0, l1, some .null] s h) ∧
  (∀ (P : Nat × Nat) (l0 : Option Value) (l1 : Option Value) (a0 : Nat) (s : List Value) (h : am_H), am_E P 18 131 [l0, l1, some (.ref a0)] s h = am_E P 18 132 [l0, l1, some (.ref a0)] (.ref a0 :: s) h) ∧
  (∀ (P : Nat × Nat) (l0 : Option Value) (l1 : Option Value) (s : List Value) (h : am_H), am_E P 18 131 [l0, l1, some .null] s h = am_E P 18 132 [l0, l1, some .null] (.null :: s) h) ∧
  (∀ (P : Nat × Nat) (l0 : Option Value) (l1 : Option Value) (l2 : Option Value) (a0 : Nat) (s : List Value) (h : am_H), am_E P 18 132 [l0, l1, l2] (.ref a0 :: s) h = (am_g1 h a0 5 4).bind (fun v => am_E P 18 135 [l0, l1, l2] (v :: s) h)) ∧
  (∀ (P : Nat × Nat) (l0 : Option Value) (l1 : Option Value) (l2 : Option Value) (s : List Value) (h : am_H), am_E P 18 135 [l0, l1, l2] s h = am_E P 18 136 [l0, l1, l2] (.int 2 :: s) h) ∧
  (∀ (P : Nat × Nat) (l0 : Option Value) (l1 : Option Value) (l2 : Option Value) (x0 : Int32) (x1 : Int32) (s : List Value) (h : am_H), am_E P 18 136 [l0, l1, l2] (.int x1 :: .int x0 :: s) h = if x0 = x1 then am_E P 18 139 [l0, l1, l2] s h else am_E P 18 152 [l0, l1, l2] s h) ∧
  (∀ (P : Nat × Nat) (l0 : Option Value) (l1 : Option Value) (a0 : Nat) (s : List Value) (h : am_H), am_E P 18 139 [l0, l1, some (.ref a0)] s h = am_E P 18 140 [l0, l1, some (.ref a0)] (.ref a0 :: s) h) ∧
  (∀ (P : Nat × Nat) (l0 : Option Value) (l1 : Option Value) (s : List Value) (h : am_H), am_E P 18 139 [l0, l1, some .null] s h = am_E P 18 140 [l0, l1, some .null] (.null :: s) h) ∧
  (∀ (P : Nat × Nat) (l0 : Option Value) (l1 : Option Value) (l2 : Option Value) (a0 : Nat) (s : List Value) (h : am_H), am_E P 18 140 [l0, l1, l2] (.ref a0 :: s) h = (am_g1 h a0 5 6).bind (fun v => am_E P 18 143 [l0, l1, l2] (v :: s) h)) ∧
  (∀ (P : Nat × Nat) (l0 : Option Value) (l1 : Option Value) (a0 : Nat) (s : List Value) (h : am_H), am_E P 18 143 [l0, l1, some (.ref a0)] s h = am_E P 18 144 [l0, l1, some (.ref a0)] (.ref a0 :: s) h) ∧
  (∀ (P : Nat × Nat) (l0 : Option Value) (l1 : Option Value) (s : List Value) (h : am_H), am_E P 18 143 [l0, l1, some .null] s h = am_E P 18 144 [l0, l1, some .null] (.null :: s) h) ∧
  (∀ (P : Nat × Nat) (l0 : Option Value) (l1 : Option Value) (l2 : Option Value) (a0 : Nat) (s : List Value) (h : am_H), am_E P 18 144 [l0, l1, l2] (.ref a0 :: s) h = (am_g1 h a0 5 2).bind (fun v => am_E P 18 147 [l0, l1, l2] (v :: s) h)) ∧
  (∀ (P : Nat × Nat) (l0 : Option Value) (l1 : Option Value) (l2 : Option Value) (x0 : Int32) (x1 : Int32) (s : List Value) (h : am_H), am_E P 18 147 [l0, l1, l2] (.int x1 :: .int x0 :: s) h = if x0 = x1 then am_E P 18 152 [l0, l1, l2] s h else am_E P 18 150 [l0, l1, l2] s h) ∧
  (∀ (P : Nat × Nat) (l0 : Option Value) (l1 : Option Value) (l2 : Option Value) (s : List Value) (h : am_H), am_E P 18 150 [l0, l1, l2] s h = am_E P 18 151 [l0, l1, l2] (.int 0 :: s) h) ∧
  (∀ (P : Nat × Nat) (l0 : Option Value) (l1 : Option Value) (l2 : Option Value) (x0 : Int32) (h : am_H), am_E P 18 151 [l0, l1, l2] [.int x0] h = if x0 = 0 ∨ x0 = 1 then some (some (.int x0), h) else none) ∧
  (∀ (P : Nat × Nat) (l0 : Option Value) (l2 : Option Value) (x0 : Int32) (s : List Value) (h : am_H), am_E P 18 152 [l0, some (.int x0), l2] s h = am_E P 18 155 [l0, some (.int (x0 + 1)), l2] s h) ∧
  (∀ (P : Nat × Nat) (l0 : Option Value) (l1 : Option Value) (l2 : Option Value) (s : List Value) (h : am_H), am_E P 18 155 [l0, l1, l2] s h = am_E P 18 108 [l0, l1, l2] s h) ∧
  (∀ (P : Nat × Nat) (l0 : Option Value) (l1 : Option Value) (l2 : Option Value) (s : List Value) (h : am_H), am_E P 18 158 [l0, l1, l2] s h = am_E P 18 159 [l0, l1, l2] (.int 1 :: s) h) ∧
  (∀ (P : Nat × Nat) (l0 : Option Value) (l1 : Option Value) (l2 : Option Value) (x0 : Int32) (h : am_H), am_E P 18 159 [l0, l1, l2] [.int x0] h = if x0 = 0 ∨ x0 = 1 then some (some (.int x0), h) else none) :=
  ⟨fun _ _ _ _ _ _ => er_go rfl rfl,
  fun _ _ _ _ _ => er_go rfl rfl,
  fun _ _ _ _ _ _ _ => er_get1 rfl,
  fun _ _ _ _ _ _ _ => er_if_eq rfl,
  fun _ _ _ _ _ _ => er_go rfl rfl,
  fun _ _ _ _ _ _ => er_retZ rfl rfl,
  fun _ _ _ _ _ _ => er_go rfl rfl,
  fun _ _ _ _ _ _ _ => er_go rfl rfl,
  fun _ _ _ _ _ _ => er_go rfl rfl,
  fun _ _ _ _ _ => er_go rfl rfl,
  fun _ _ _ _ _ _ _ => er_get1 rfl,
  fun _ _ _ _ _ _ _ => er_callV rfl rfl rfl rfl,
  fun _ _ _ _ _ _ _ _ => er_ic_ge rfl,
  fun _ _ _ _ _ _ => er_go rfl rfl,
  fun _ _ _ _ _ => er_go rfl rfl,
  fun _ _ _ _ _ _ _ => er_get1 rfl,
  fun _ _ _ _ _ _ => er_go rfl rfl,
  fun _ _ _ _ _ _ _ => er_callV rfl rfl rfl rfl,
  fun _ _ _ _ _ _ _ => er_cast rfl,
  fun _ _ _ _ _ _ => er_go rfl rfl,
  fun _ _ _ _ _ _ => er_go rfl rfl,
  fun _ _ _ _ _ _ _ _ => er_put1 rfl rfl,
  fun _ _ _ _ _ _ => er_go rfl rfl,
  fun _ _ _ _ _ _ => er_go rfl rfl,
  fun _ _ _ _ _ _ => er_go rfl rfl,
  fun _ _ _ _ _ _ _ => er_go rfl rfl,
  fun _ _ _ _ _ _ => er_go rfl rfl,
  fun _ _ _ _ _ => er_go rfl rfl,
  fun _ _ _ _ _ _ _ => er_get1 rfl,
  fun _ _ _ _ _ _ _ => er_callV rfl rfl rfl rfl,
  fun _ _ _ _ _ _ _ _ => er_ic_ge rfl,
  fun _ _ _ _ _ _ => er_go rfl rfl,
  fun _ _ _ _ _ => er_go rfl rfl,
  fun _ _ _ _ _ _ => er_go rfl rfl,
  fun _ _ _ _ _ => er_go rfl rfl,
  fun _ _ _ _ _ _ _ => er_get1 rfl,
  fun _ _ _ _ _ _ => er_go rfl rfl,
  fun _ _ _ _ _ _ => er_go rfl rfl,
  fun _ _ _ _ _ _ _ _ _ => er_callV rfl rfl rfl rfl,
  fun _ _ _ _ _ _ _ => er_callV rfl rfl rfl rfl,
  fun _ _ _ _ _ _ _ => er_go rfl rfl,
  fun _ _ _ _ _ _ => er_go rfl rfl,
  fun _ _ _ _ _ _ => er_go rfl rfl,
  fun _ _ _ _ _ => er_go rfl rfl,
  fun _ _ _ _ _ _ _ => er_go rfl rfl,
  fun _ _ _ _ _ _ => er_go rfl rfl,
  fun _ _ _ _ _ _ => er_go rfl rfl,
  fun _ _ _ _ _ => er_go rfl rfl,
  fun _ _ _ _ _ _ _ => er_get1 rfl,
  fun _ _ _ _ _ _ => er_go rfl rfl,
  fun _ _ _ _ _ => er_go rfl rfl,
  fun _ _ _ _ _ _ _ => er_get1 rfl,
  fun _ _ _ _ _ _ => er_go rfl rfl,
  fun _ _ _ _ _ _ => er_go rfl rfl,
  fun _ _ _ _ _ _ _ _ _ => er_callV rfl rfl rfl rfl,
  fun _ _ _ _ _ _ _ _ => er_ic_ne rfl,
  fun _ _ _ _ _ _ => er_go rfl rfl,
  fun _ _ _ _ _ => er_go rfl rfl,
  fun _ _ _ _ _ _ _ => er_go rfl rfl,
  fun _ _ _ _ _ _ _ => er_get1 rfl,
  fun _ _ _ _ _ _ => er_go rfl rfl,
  fun _ _ _ _ _ _ _ _ => er_go rfl rfl,
  fun _ _ _ _ _ _ _ _ => er_put1 rfl rfl,
  fun _ _ _ _ _ _ => er_go rfl rfl,
  fun _ _ _ _ _ _ => er_go rfl rfl,
  fun _ _ _ _ _ _ => er_go rfl rfl,
  fun _ _ _ _ _ _ _ => er_go rfl rfl,
  fun _ _ _ _ _ _ => er_go rfl rfl,
  fun _ _ _ _ _ => er_go rfl rfl,
  fun _ _ _ _ _ _ _ => er_get1 rfl,
  fun _ _ _ _ _ _ _ => er_callV rfl rfl rfl rfl,
  fun _ _ _ _ _ _ _ _ => er_ic_ge rfl,
  fun _ _ _ _ _ _ => er_go rfl rfl,
  fun _ _ _ _ _ => er_go rfl rfl,
  fun _ _ _ _ _ _ _ => er_get1 rfl,
  fun _ _ _ _ _ _ => er_go rfl rfl,
  fun _ _ _ _ _ _ _ => er_callV rfl rfl rfl rfl,
  fun _ _ _ _ _ _ _ => er_cast rfl,
  fun _ _ _ _ _ _ => er_go rfl rfl,
  fun _ _ _ _ _ _ _ => er_go rfl rfl,
  fun _ _ _ _ _ _ => er_go rfl rfl,
  fun _ _ _ _ _ _ => er_go rfl rfl,
  fun _ _ _ _ _ => er_go rfl rfl,
  fun _ _ _ _ _ _ _ => er_get1 rfl,
  fun _ _ _ _ _ _ => er_go rfl rfl,
  fun _ _ _ _ _ _ _ _ => er_ic_ne rfl,
  fun _ _ _ _ _ _ => er_go rfl rfl,
  fun _ _ _ _ _ => er_go rfl rfl,
  fun _ _ _ _ _ _ _ => er_get1 rfl,
  fun _ _ _ _ _ _ => er_go rfl rfl,
  fun _ _ _ _ _ => er_go rfl rfl,
  fun _ _ _ _ _ _ _ => er_get1 rfl,
  fun _ _ _ _ _ _ _ _ => er_ic_eq rfl,
  fun _ _ _ _ _ _ => er_go rfl rfl,
  fun _ _ _ _ _ _ => er_retZ rfl rfl,
  fun _ _ _ _ _ _ => er_go rfl rfl,
  fun _ _ _ _ _ _ => er_go rfl rfl,
  fun _ _ _ _ _ _ => er_go rfl rfl,
  fun _ _ _ _ _ _ => er_retZ rfl rfl⟩
theorem hd18_11 : ∀ (P : Nat × Nat) (l0 : Option Value) (l2 : Option Value) (x0 : Int32) (s : List Value) (h : am_H), am_E P 18 11 [l0, some (.int x0), l2] s h = am_E P 18 12 [l0, some (.int x0), l2] (.int x0 :: s) h := fun _ _ _ _ _ _ => er_go rfl rfl
theorem hd18_45 : ∀ (P : Nat × Nat) (l0 : Option Value) (l2 : Option Value) (x0 : Int32) (s : List Value) (h : am_H), am_E P 18 45 [l0, some (.int x0), l2] s h = am_E P 18 46 [l0, some (.int x0), l2] (.int x0 :: s) h := fun _ _ _ _ _ _ => er_go rfl rfl
theorem hd18_108 : ∀ (P : Nat × Nat) (l0 : Option Value) (l2 : Option Value) (x0 : Int32) (s : List Value) (h : am_H), am_E P 18 108 [l0, some (.int x0), l2] s h = am_E P 18 109 [l0, some (.int x0), l2] (.int x0 :: s) h := fun _ _ _ _ _ _ => er_go rfl rfl
/-- TwoStepOutputs$Output.showsLatestOfKeys(LTwoStepOutputs$Disk;)Z -/
theorem r19 : (∀ (P : Nat × Nat) (l1 : Option Value) (l2 : Option Value) (l3 : Option Value) (l4 : Option Value) (l5 : Option Value) (a0 : Nat) (s : List Value) (h : am_H), am_E P 19 0 [some (.ref a0), l1, l2, l3, l4, l5] s h = am_E P 19 1 [some (.ref a0), l1, l2, l3, l4, l5] (.ref a0 :: s) h) ∧
  (∀ (P : Nat × Nat) (l1 : Option Value) (l2 : Option Value) (l3 : Option Value) (l4 : Option Value) (l5 : Option Value) (s : List Value) (h : am_H), am_E P 19 0 [some .null, l1, l2, l3, l4, l5] s h = am_E P 19 1 [some .null, l1, l2, l3, l4, l5] (.null :: s) h) ∧
  (∀ (P : Nat × Nat) (l0 : Option Value) (l1 : Option Value) (l2 : Option Value) (l3 : Option Value) (l4 : Option Value) (l5 : Option Value) (a0 : Nat) (s : List Value) (h : am_H), am_E P 19 1 [l0, l1, l2, l3, l4, l5] (.ref a0 :: s) h = (am_g1 h a0 4 1).bind (fun v => am_E P 19 4 [l0, l1, l2, l3, l4, l5] (v :: s) h)) ∧
  (∀ (P : Nat × Nat) (l0 : Option Value) (l1 : Option Value) (l2 : Option Value) (l3 : Option Value) (l4 : Option Value) (l5 : Option Value) (s : List Value) (h : am_H), am_E P 19 4 [l0, l1, l2, l3, l4, l5] s h = am_E P 19 5 [l0, l1, l2, l3, l4, l5] (.int 1 :: s) h) ∧
  (∀ (P : Nat × Nat) (l0 : Option Value) (l1 : Option Value) (l2 : Option Value) (l3 : Option Value) (l4 : Option Value) (l5 : Option Value) (x0 : Int32) (x1 : Int32) (s : List Value) (h : am_H), am_E P 19 5 [l0, l1, l2, l3, l4, l5] (.int x1 :: .int x0 :: s) h = if x0 = x1 then am_E P 19 10 [l0, l1, l2, l3, l4, l5] s h else am_E P 19 8 [l0, l1, l2, l3, l4, l5] s h) ∧
  (∀ (P : Nat × Nat) (l0 : Option Value) (l1 : Option Value) (l2 : Option Value) (l3 : Option Value) (l4 : Option Value) (l5 : Option Value) (s : List Value) (h : am_H), am_E P 19 8 [l0, l1, l2, l3, l4, l5] s h = am_E P 19 9 [l0, l1, l2, l3, l4, l5] (.int 1 :: s) h) ∧
  (∀ (P : Nat × Nat) (l0 : Option Value) (l1 : Option Value) (l2 : Option Value) (l3 : Option Value) (l4 : Option Value) (l5 : Option Value) (x0 : Int32) (h : am_H), am_E P 19 9 [l0, l1, l2, l3, l4, l5] [.int x0] h = if x0 = 0 ∨ x0 = 1 then some (some (.int x0), h) else none) ∧
  (∀ (P : Nat × Nat) (l0 : Option Value) (l1 : Option Value) (l2 : Option Value) (l3 : Option Value) (l4 : Option Value) (l5 : Option Value) (s : List Value) (h : am_H), am_E P 19 10 [l0, l1, l2, l3, l4, l5] s h = am_E P 19 11 [l0, l1, l2, l3, l4, l5] (.int 0 :: s) h) ∧
  (∀ (P : Nat × Nat) (l0 : Option Value) (l1 : Option Value) (l2 : Option Value) (l3 : Option Value) (l4 : Option Value) (l5 : Option Value) (x0 : Int32) (s : List Value) (h : am_H), am_E P 19 11 [l0, l1, l2, l3, l4, l5] (.int x0 :: s) h = am_E P 19 12 [l0, l1, some (.int x0), l3, l4, l5] s h) ∧
  (∀ (P : Nat × Nat) (l1 : Option Value) (l2 : Option Value) (l3 : Option Value) (l4 : Option Value) (l5 : Option Value) (a0 : Nat) (s : List Value) (h : am_H), am_E P 19 13 [some (.ref a0), l1, l2, l3, l4, l5] s h = am_E P 19 14 [some (.ref a0), l1, l2, l3, l4, l5] (.ref a0 :: s) h) ∧
  (∀ (P : Nat × Nat) (l1 : Option Value) (l2 : Option Value) (l3 : Option Value) (l4 : Option Value) (l5 : Option Value) (s : List Value) (h : am_H), am_E P 19 13 [some .null, l1, l2, l3, l4, l5] s h = am_E P 19 14 [some .null, l1, l2, l3, l4, l5] (.null :: s) h) ∧
  (∀ (P : Nat × Nat) (l0 : Option Value) (l1 : Option Value) (l2 : Option Value) (l3 : Option Value) (l4 : Option Value) (l5 : Option Value) (a0 : Nat) (s : List Value) (h : am_H), am_E P 19 14 [l0, l1, l2, l3, l4, l5] (.ref a0 :: s) h = (am_g1 h a0 4 5).bind (fun v => am_E P 19 17 [l0, l1, l2, l3, l4, l5] (v :: s) h)) ∧
  (∀ (P : Nat × Nat) (l0 : Option Value) (l1 : Option Value) (l2 : Option Value) (l3 : Option Value) (l4 : Option Value) (l5 : Option Value) (a0 : Nat) (v0 : Value) (h : am_H), am_E P 19 17 [l0, l1, l2, l3, l4, l5] [.ref a0, v0] h = if am_cls h a0 = some 0 then (am_E P 118 0 [some (.ref a0)] [] h).bind (fun q => am_E P 19 20 [l0, l1, l2, l3, l4, l5] (q.1.toList ++ [v0]) q.2) else none) ∧
  (∀ (P : Nat × Nat) (l0 : Option Value) (l1 : Option Value) (l2 : Option Value) (l3 : Option Value) (l4 : Option Value) (l5 : Option Value) (x0 : Int32) (x1 : Int32) (s : List Value) (h : am_H), am_E P 19 20 [l0, l1, l2, l3, l4, l5] (.int x1 :: .int x0 :: s) h = if x1 ≤ x0 then am_E P 19 109 [l0, l1, l2, l3, l4, l5] s h else am_E P 19 23 [l0, l1, l2, l3, l4, l5] s h) ∧
  (∀ (P : Nat × Nat) (l1 : Option Value) (l2 : Option Value) (l3 : Option Value) (l4 : Option Value) (l5 : Option Value) (a0 : Nat) (s : List Value) (h : am_H), am_E P 19 23 [some (.ref a0), l1, l2, l3, l4, l5] s h = am_E P 19 24 [some (.ref a0), l1, l2, l3, l4, l5] (.ref a0 :: s) h) ∧
  (∀ (P : Nat × Nat) (l1 : Option Value) (l2 : Option Value) (l3 : Option Value) (l4 : Option Value) (l5 : Option Value) (s : List Value) (h : am_H), am_E P 19 23 [some .null, l1, l2, l3, l4, l5] s h = am_E P 19 24 [some .null, l1, l2, l3, l4, l5] (.null :: s) h) ∧
  (∀ (P : Nat × Nat) (l0 : Option Value) (l1 : Option Value) (l2 : Option Value) (l3 : Option Value) (l4 : Option Value) (l5 : Option Value) (a0 : Nat) (s : List Value) (h : am_H), am_E P 19 24 [l0, l1, l2, l3, l4, l5] (.ref a0 :: s) h = (am_g1 h a0 4 5).bind (fun v => am_E P 19 27 [l0, l1, l2, l3, l4, l5] (v :: s) h)) ∧
  (∀ (P : Nat × Nat) (l0 : Option Value) (l1 : Option Value) (l3 : Option Value) (l4 : Option Value) (l5 : Option Value) (x0 : Int32) (s : List Value) (h : am_H), am_E P 19 27 [l0, l1, some (.int x0), l3, l4, l5] s h = am_E P 19 28 [l0, l1, some (.int x0), l3, l4, l5] (.int x0 :: s) h) ∧
  (∀ (P : Nat × Nat) (l0 : Option Value) (l1 : Option Value) (l2 : Option Value) (l3 : Option Value) (l4 : Option Value) (l5 : Option Value) (a0 : Nat) (x0 : Int32) (h : am_H), am_E P 19 28 [l0, l1, l2, l3, l4, l5] [.int x0, .ref a0] h = if am_cls h a0 = some 0 then (am_E P 120 0 [some (.ref a0), some (.int x0)] [] h).bind (fun q => am_E P 19 31 [l0, l1, l2, l3, l4, l5] (q.1.toList ++ []) q.2) else none) ∧
  (∀ (P : Nat × Nat) (l0 : Option Value) (l1 : Option Value) (l2 : Option Value) (l3 : Option Value) (l4 : Option Value) (l5 : Option Value) (a0 : Nat) (s : List Value) (h : am_H), am_E P 19 31 [l0, l1, l2, l3, l4, l5] (.ref a0 :: s) h = if am_cls h a0 = some 5 then am_E P 19 34 [l0, l1, l2, l3, l4, l5] (.ref a0 :: s) h else none) ∧
  (∀ (P : Nat × Nat) (l0 : Option Value) (l1 : Option Value) (l2 : Option Value) (l3 : Option Value) (l4 : Option Value) (l5 : Option Value) (s : List Value) (h : am_H), am_E P 19 31 [l0, l1, l2, l3, l4, l5] (.null :: s) h = am_E P 19 34 [l0, l1, l2, l3, l4, l5] (.null :: s) h) ∧
  (∀ (P : Nat × Nat) (l0 : Option Value) (l1 : Option Value) (l2 : Option Value) (l3 : Option Value) (l4 : Option Value) (l5 : Option Value) (a0 : Nat) (s : List Value) (h : am_H), am_E P 19 34 [l0, l1, l2, l3, l4, l5] (.ref a0 :: s) h = am_E P 19 35 [l0, l1, l2, some (.ref a0), l4, l5] s h) ∧
  (∀ (P : Nat × Nat) (l0 : Option Value) (l1 : Option Value) (l2 : Option Value) (l3 : Option Value) (l4 : Option Value) (l5 : Option Value) (s : List Value) (h : am_H), am_E P 19 34 [l0, l1, l2, l3, l4, l5] (.null :: s) h = am_E P 19 35 [l0, l1, l2, some .null, l4, l5] s h) ∧
  (∀ (P : Nat × Nat) (l0 : Option Value) (l1 : Option Value) (l2 : Option Value) (l3 : Option Value) (l4 : Option Value) (l5 : Option Value) (s : List Value) (h : am_H), am_E P 19 35 [l0, l1, l2, l3, l4, l5] s h = am_E P 19 36 [l0, l1, l2, l3, l4, l5] (.int 0 :: s) h) ∧
  (∀ (P : Nat × Nat) (l0 : Option Value) (l1 : Option Value) (l2 : Option Value) (l3 : Option Value) (l4 : Option Value) (l5 : Option Value) (x0 : Int32) (s : List Value) (h : am_H), am_E P 19 36 [l0, l1, l2, l3, l4, l5] (.int x0 :: s) h = am_E P 19 38 [l0, l1, l2, l3, some (.int x0), l5] s h) ∧
  (∀ (P : Nat × Nat) (l0 : Option Value) (l1 : Option Value) (l2 : Option Value) (l3 : Option Value) (l4 : Option Value) (l5 : Option Value) (a0 : Nat) (s : List Value) (h : am_H), am_E P 19 39 [l0, l1, l2, l3, l4, l5] (.ref a0 :: s) h = (am_g1 h a0 5 4).bind (fun v => am_E P 19 42 [l0, l1, l2, l3, l4, l5] (v :: s) h)) ∧
  (∀ (P : Nat × Nat) (l0 : Option Value) (l1 : Option Value) (l2 : Option Value) (l3 : Option Value) (l4 : Option Value) (l5 : Option Value) (s : List Value) (h : am_H), am_E P 19 42 [l0, l1, l2, l3, l4, l5] s h = am_E P 19 43 [l0, l1, l2, l3, l4, l5] (.int 2 :: s) h) ∧
  (∀ (P : Nat × Nat) (l0 : Option Value) (l1 : Option Value) (l2 : Option Value) (l3 : Option Value) (l4 : Option Value) (l5 : Option Value) (x0 : Int32) (x1 : Int32) (s : List Value) (h : am_H), am_E P 19 43 [l0, l1, l2, l3, l4, l5] (.int x1 :: .int x0 :: s) h = if x0 = x1 then am_E P 19 46 [l0, l1, l2, l3, l4, l5] s h else am_E P 19 103 [l0, l1, l2, l3, l4, l5] s h) ∧
  (∀ (P : Nat × Nat) (l0 : Option Value) (l1 : Option Value) (l2 : Option Value) (l3 : Option Value) (l5 : Option Value) (x0 : Int32) (s : List Value) (h : am_H), am_E P 19 46 [l0, l1, l2, l3, some (.int x0), l5] s h = am_E P 19 48 [l0, l1, l2, l3, some (.int x0), l5] (.int x0 :: s) h) ∧
  (∀ (P : Nat × Nat) (l0 : Option Value) (l1 : Option Value) (l2 : Option Value) (l4 : Option Value) (l5 : Option Value) (a0 : Nat) (s : List Value) (h : am_H), am_E P 19 48 [l0, l1, l2, some (.ref a0), l4, l5] s h = am_E P 19 49 [l0, l1, l2, some (.ref a0), l4, l5] (.ref a0 :: s) h) ∧
  (∀ (P : Nat × Nat) (l0 : Option Value) (l1 : Option Value) (l2 : Option Value) (l4 : Option Value) (l5 : Option Value) (s : List Value) (h : am_H), am_E P 19 48 [l0, l1, l2, some .null, l4, l5] s h = am_E P 19 49 [l0, l1, l2, some .null, l4, l5] (.null :: s) h) ∧
  (∀ (P : Nat × Nat) (l0 : Option Value) (l1 : Option Value) (l2 : Option Value) (l3 : Option Value) (l4 : Option Value) (l5 : Option Value) (a0 : Nat) (s : List Value) (h : am_H), am_E P 19 49 [l0, l1, l2, l3, l4, l5] (.ref a0 :: s) h = (am_g1 h a0 5 2).bind (fun v => am_E P 19 52 [l0, l1, l2, l3, l4, l5] (v :: s) h)) ∧
  (∀ (P : Nat × Nat) (l0 : Option Value) (l1 : Option Value) (l2 : Option Value) (l3 : Option Value) (l4 : Option Value) (l5 : Option Value) (x0 : Int32) (x1 : Int32) (s : List Value) (h : am_H), am_E P 19 52 [l0, l1, l2, l3, l4, l5] (.int x1 :: .int x0 :: s) h = if x1 ≤ x0 then am_E P 19 103 [l0, l1, l2, l3, l4, l5] s h else am_E P 19 55 [l0, l1, l2, l3, l4, l5] s h) ∧
  (∀ (P : Nat × Nat) (l0 : Option Value) (l2 : Option Value) (l3 : Option Value) (l4 : Option Value) (l5 : Option Value) (a0 : Nat) (s : List Value) (h : am_H), am_E P 19 55 [l0, some (.ref a0), l2, l3, l4, l5] s h = am_E P 19 56 [l0, some (.ref a0), l2, l3, l4, l5] (.ref a0 :: s) h) ∧
  (∀ (P : Nat × Nat) (l0 : Option Value) (l2 : Option Value) (l3 : Option Value) (l4 : Option Value) (l5 : Option Value) (s : List Value) (h : am_H), am_E P 19 55 [l0, some .null, l2, l3, l4, l5] s h = am_E P 19 56 [l0, some .null, l2, l3, l4, l5] (.null :: s) h) ∧
  (∀ (P : Nat × Nat) (l0 : Option Value) (l1 : Option Value) (l2 : Option Value) (l4 : Option Value) (l5 : Option Value) (a0 : Nat) (s : List Value) (h : am_H), am_E P 19 56 [l0, l1, l2, some (.ref a0), l4, l5] s h = am_E P 19 57 [l0, l1, l2, some (.ref a0), l4, l5] (.ref a0 :: s) h) ∧
  (∀ (P : Nat × Nat) (l0 : Option Value) (l1 : Option Value) (l2 : Option Value) (l4 : Option Value) (l5 : Option Value) (s : List Value) (h : am_H), am_E P 19 56 [l0, l1, l2, some .null, l4, l5] s h = am_E P 19 57 [l0, l1, l2, some .null, l4, l5] (.null :: s) h) ∧
  (∀ (P : Nat × Nat) (l0 : Option Value) (l1 : Option Value) (l2 : Option Value) (l3 : Option Value) (l4 : Option Value) (l5 : Option Value) (a0 : Nat) (s : List Value) (h : am_H), am_E P 19 57 [l0, l1, l2, l3, l4, l5] (.ref a0 :: s) h = (am_g1 h a0 5 1).bind (fun v => am_E P 19 60 [l0, l1, l2, l3, l4, l5] (v :: s) h)) ∧
  (∀ (P : Nat × Nat) (l0 : Option Value) (l1 : Option Value) (l2 : Option Value) (l3 : Option Value) (l5 : Option Value) (x0 : Int32) (s : List Value) (h : am_H), am_E P 19 60 [l0, l1, l2, l3, some (.int x0), l5] s h = am_E P 19 62 [l0, l1, l2, l3, some (.int x0), l5] (.int x0 :: s) h) ∧
  (∀ (P : Nat × Nat) (l0 : Option Value) (l1 : Option Value) (l2 : Option Value) (l3 : Option Value) (l4 : Option Value) (l5 : Option Value) (x0 : Int32) (x1 : Int32) (s : List Value) (h : am_H), am_E P 19 62 [l0, l1, l2, l3, l4, l5] (.int x1 :: .int x0 :: s) h = am_E P 19 63 [l0, l1, l2, l3, l4, l5] (.int (x0 + x1) :: s) h) ∧
  (∀ (P : Nat × Nat) (l0 : Option Value) (l1 : Option Value) (l2 : Option Value) (l3 : Option Value) (l4 : Option Value) (l5 : Option Value) (s : List Value) (h : am_H), am_E P 19 63 [l0, l1, l2, l3, l4, l5] s h = am_E P 19 64 [l0, l1, l2, l3, l4, l5] (.int 3 :: s) h) ∧
  (∀ (P : Nat × Nat) (l0 : Option Value) (l1 : Option Value) (l2 : Option Value) (l3 : Option Value) (l4 : Option Value) (l5 : Option Value) (a0 : Nat) (x0 : Int32) (x1 : Int32) (h : am_H), am_E P 19 64 [l0, l1, l2, l3, l4, l5] [.int x1, .int x0, .ref a0] h = if am_cls h a0 = some 2 then (am_E P 26 0 [some (.ref a0), some (.int x0), some (.int x1)] [] h).bind (fun q => am_E P 19 67 [l0, l1, l2, l3, l4, l5] (q.1.toList ++ []) q.2) else none) ∧
  (∀ (P : Nat × Nat) (l0 : Option Value) (l1 : Option Value) (l2 : Option Value) (l3 : Option Value) (l4 : Option Value) (l5 : Option Value) (x0 : Int32) (s : List Value) (h : am_H), am_E P 19 67 [l0, l1, l2, l3, l4, l5] (.int x0 :: s) h = am_E P 19 69 [l0, l1, l2, l3, l4, some (.int x0)] s h) ∧
  (∀ (P : Nat × Nat) (l1 : Option Value) (l2 : Option Value) (l3 : Option Value) (l4 : Option Value) (l5 : Option Value) (a0 : Nat) (s : List Value) (h : am_H), am_E P 19 69 [some (.ref a0), l1, l2, l3, l4, l5] s h = am_E P 19 70 [some (.ref a0), l1, l2, l3, l4, l5] (.ref a0 :: s) h) ∧
  (∀ (P : Nat × Nat) (l1 : Option Value) (l2 : Option Value) (l3 : Option Value) (l4 : Option Value) (l5 : Option Value) (s : List Value) (h : am_H), am_E P 19 69 [some .null, l1, l2, l3, l4, l5] s h = am_E P 19 70 [some .null, l1, l2, l3, l4, l5] (.null :: s) h) ∧
  (∀ (P : Nat × Nat) (l0 : Option Value) (l1 : Option Value) (l2 : Option Value) (l3 : Option Value) (l4 : Option Value) (l5 : Option Value) (a0 : Nat) (s : List Value) (h : am_H), am_E P 19 70 [l0, l1, l2, l3, l4, l5] (.ref a0 :: s) h = (am_g1 h a0 4 9).bind (fun v => am_E P 19 73 [l0, l1, l2, l3, l4, l5] (v :: s) h)) ∧
  (∀ (P : Nat × Nat) (l0 : Option Value) (l1 : Option Value) (l2 : Option Value) (l3 : Option Value) (l4 : Option Value) (x0 : Int32) (s : List Value) (h : am_H), am_E P 19 73 [l0, l1, l2, l3, l4, some (.int x0)] s h = am_E P 19 75 [l0, l1, l2, l3, l4, some (.int x0)] (.int x0 :: s) h) ∧
  (∀ (P : Nat × Nat) (l0 : Option Value) (l1 : Option Value) (l2 : Option Value) (l3 : Option Value) (l4 : Option Value) (l5 : Option Value) (a0 : Nat) (x0 : Int32) (h : am_H), am_E P 19 75 [l0, l1, l2, l3, l4, l5] [.int x0, .ref a0] h = if am_cls h a0 = some 7 then (am_E P 30 0 [some (.ref a0), some (.int x0)] [] h).bind (fun q => am_E P 19 78 [l0, l1, l2, l3, l4, l5] (q.1.toList ++ []) q.2) else none) ∧
  (∀ (P : Nat × Nat) (l0 : Option Value) (l1 : Option Value) (l2 : Option Value) (l3 : Option Value) (l4 : Option Value) (l5 : Option Value) (x0 : Int32) (s : List Value) (h : am_H), am_E P 19 78 [l0, l1, l2, l3, l4, l5] (.int x0 :: s) h = if x0 = 0 then am_E P 19 95 [l0, l1, l2, l3, l4, l5] s h else am_E P 19 81 [l0, l1, l2, l3, l4, l5] s h) ∧
  (∀ (P : Nat × Nat) (l1 : Option Value) (l2 : Option Value) (l3 : Option Value) (l4 : Option Value) (l5 : Option Value) (a0 : Nat) (s : List Value) (h : am_H), am_E P 19 81 [some (.ref a0), l1, l2, l3, l4, l5] s h = am_E P 19 82 [some (.ref a0), l1, l2, l3, l4, l5] (.ref a0 :: s) h) ∧
  (∀ (P : Nat × Nat) (l1 : Option Value) (l2 : Option Value) (l3 : Option Value) (l4 : Option Value) (l5 : Option Value) (s : List Value) (h : am_H), am_E P 19 81 [some .null, l1, l2, l3, l4, l5] s h = am_E P 19 82 [some .null, l1, l2, l3, l4, l5] (.null :: s) h) ∧
  (∀ (P : Nat × Nat) (l0 : Option Value) (l1 : Option Value) (l2 : Option Value) (l3 : Option Value) (l4 : Option Value) (l5 : Option Value) (a0 : Nat) (s : List Value) (h : am_H), am_E P 19 82 [l0, l1, l2, l3, l4, l5] (.ref a0 :: s) h = (am_g1 h a0 4 9).bind (fun v => am_E P 19 85 [l0, l1, l2, l3, l4, l5] (v :: s) h)) ∧
  (∀ (P : Nat × Nat) (l0 : Option Value) (l1 : Option Value) (l2 : Option Value) (l3 : Option Value) (l4 : Option Value) (l5 : Option Value) (a0 : Nat) (s : List Value) (h : am_H), am_E P 19 85 [l0, l1, l2, l3, l4, l5] (.ref a0 :: s) h = (am_g1 h a0 7 1).bind (fun v => am_E P 19 88 [l0, l1, l2, l3, l4, l5] (v :: s) h)) ∧
  (∀ (P : Nat × Nat) (l0 : Option Value) (l1 : Option Value) (l2 : Option Value) (l3 : Option Value) (l4 : Option Value) (x0 : Int32) (s : List Value) (h : am_H), am_E P 19 88 [l0, l1, l2, l3, l4, some (.int x0)] s h = am_E P 19 90 [l0, l1, l2, l3, l4, some (.int x0)] (.int x0 :: s) h) ∧
  (∀ (P : Nat × Nat) (l0 : Option Value) (l1 : Option Value) (l2 : Option Value) (l3 : Option Value) (l4 : Option Value) (l5 : Option Value) (x0 : Int32) (a0 : Nat) (s : List Value) (h : am_H), am_E P 19 90 [l0, l1, l2, l3, l4, l5] (.int x0 :: .ref a0 :: s) h = (am_iald h a0 x0).bind (fun v => am_E P 19 91 [l0, l1, l2, l3, l4, l5] (.int v :: s) h)) ∧
  (∀ (P : Nat × Nat) (l0 : Option Value) (l1 : Option Value) (l3 : Option Value) (l4 : Option Value) (l5 : Option Value) (x0 : Int32) (s : List Value) (h : am_H), am_E P 19 91 [l0, l1, some (.int x0), l3, l4, l5] s h = am_E P 19 92 [l0, l1, some (.int x0), l3, l4, l5] (.int x0 :: s) h) ∧
  (∀ (P : Nat × Nat) (l0 : Option Value) (l1 : Option Value) (l2 : Option Value) (l3 : Option Value) (l4 : Option Value) (l5 : Option Value) (x0 : Int32) (x1 : Int32) (s : List Value) (h : am_H), am_E P 19 92 [l0, l1, l2, l3, l4, l5] (.int x1 :: .int x0 :: s) h = if x1 ≤ x0 then am_E P 19 97 [l0, l1, l2, l3, l4, l5] s h else am_E P 19 95 [l0, l1, l2, l3, l4, l5] s h) ∧
  (∀ (P : Nat × Nat) (l0 : Option Value) (l1 : Option Value) (l2 : Option Value) (l3 : Option Value) (l4 : Option Value) (l5 : Option Value) (s : List Value) (h : am_H), am_E P 19 95 [l0, l1, l2, l3, l4, l5] s h = am_E P 19 96 [l0, l1, l2, l3, l4, l5] (.int 0 :: s) h) ∧
  (∀ (P : Nat × Nat) (l0 : Option Value) (l1 : Option Value) (l2 : Option Value) (l3 : Option Value) (l4 : Option Value) (l5 : Option Value) (x0 : Int32) (h : am_H), am_E P 19 96 [l0, l1, l2, l3, l4, l5] [.int x0] h = if x0 = 0 ∨ x0 = 1 then some (some (.int x0), h) else none) ∧
  (∀ (P : Nat × Nat) (l0 : Option Value) (l1 : Option Value) (l2 : Option Value) (l3 : Option Value) (l5 : Option Value) (x0 : Int32) (s : List Value) (h : am_H), am_E P 19 97 [l0, l1, l2, l3, some (.int x0), l5] s h = am_E P 19 100 [l0, l1, l2, l3, some (.int (x0 + 1)), l5] s h) ∧
  (∀ (P : Nat × Nat) (l0 : Option Value) (l1 : Option Value) (l2 : Option Value) (l3 : Option Value) (l4 : Option Value) (l5 : Option Value) (s : List Value) (h : am_H), am_E P 19 100 [l0, l1, l2, l3, l4, l5] s h = am_E P 19 38 [l0, l1, l2, l3, l4, l5] s h) ∧
  (∀ (P : Nat × Nat) (l0 : Option Value) (l1 : Option Value) (l3 : Option Value) (l4 : Option Value) (l5 : Option Value) (x0 : Int32) (s : List Value) (h : am_H), am_E P 19 103 [l0, l1, some (.int x0), l3, l4, l5] s h = am_E P 19 106 [l0, l1, some (.int (x0 + 1)), l3, l4, l5] s h) ∧
  (∀ (P : Nat × Nat) (l0 : Option Value) (l1 : Option Value) (l2 : Option Value) (l3 : Option Value) (l4 : Option Value) (l5 : Option Value) (s : List Value) (h : am_H), am_E P 19 106 [l0, l1, l2, l3, l4, l5] s h = am_E P 19 12 [l0, l1, l2, l3, l4, l5] s h) ∧
  (∀ (P : Nat × Nat) (l0 : Option Value) (l1 : Option Value) (l2 : Option Value) (l3 : Option Value) (l4 : Option Value) (l5 : Option Value) (s : List Value) (h : am_H), am_E P 19 109 [l0, l1, l2, l3, l4, l5] s h = am_E P 19 110 [l0, l1, l2, l3, l4, l5] (.int 1 :: s) h) ∧
  (∀ (P : Nat × Nat) (l0 : Option Value) (l1 : Option Value) (l2 : Option Value) (l3 : Option Value) (l4 : Option Value) (l5 : Option Value) (x0 : Int32) (h : am_H), am_E P 19 110 [l0, l1, l2, l3, l4, l5] [.int x0] h = if x0 = 0 ∨ x0 = 1 then some (some (.int x0), h) else none) :=
  ⟨fun _ _ _ _ _ _ _ _ _ => er_go rfl rfl,
  fun _ _ _ _ _ _ _ _ => er_go rfl rfl,
  fun _ _ _ _ _ _ _ _ _ _ => er_get1 rfl,
  fun _ _ _ _ _ _ _ _ _ => er_go rfl rfl,
  fun _ _ _ _ _ _ _ _ _ _ _ => er_ic_eq rfl,
  fun _ _ _ _ _ _ _ _ _ => er_go rfl rfl,
  fun _ _ _ _ _ _ _ _ _ => er_retZ rfl rfl,
  fun _ _ _ _ _ _ _ _ _ => er_go rfl rfl,
  fun _ _ _ _ _ _ _ _ _ _ => er_go rfl rfl,
  fun _ _ _ _ _ _ _ _ _ => er_go rfl rfl,
  fun _ _ _ _ _ _ _ _ => er_go rfl rfl,
  fun _ _ _ _ _ _ _ _ _ _ => er_get1 rfl,
  fun _ _ _ _ _ _ _ _ _ _ => er_callV rfl rfl rfl rfl,
  fun _ _ _ _ _ _ _ _ _ _ _ => er_ic_ge rfl,
  fun _ _ _ _ _ _ _ _ _ => er_go rfl rfl,
  fun _ _ _ _ _ _ _ _ => er_go rfl rfl,
  fun _ _ _ _ _ _ _ _ _ _ => er_get1 rfl,
  fun _ _ _ _ _ _ _ _ _ => er_go rfl rfl,
  fun _ _ _ _ _ _ _ _ _ _ => er_callV rfl rfl rfl rfl,
  fun _ _ _ _ _ _ _ _ _ _ => er_cast rfl,
  fun _ _ _ _ _ _ _ _ _ => er_go rfl rfl,
  fun _ _ _ _ _ _ _ _ _ _ => er_go rfl rfl,
  fun _ _ _ _ _ _ _ _ _ => er_go rfl rfl,
  fun _ _ _ _ _ _ _ _ _ => er_go rfl rfl,
  fun _ _ _ _ _ _ _ _ _ _ => er_go rfl rfl,
  fun _ _ _ _ _ _ _ _ _ _ => er_get1 rfl,
  fun _ _ _ _ _ _ _ _ _ => er_go rfl rfl,
  fun _ _ _ _ _ _ _ _ _ _ _ => er_ic_ne rfl,
  fun _ _ _ _ _ _ _ _ _ => er_go rfl rfl,
  fun _ _ _ _ _ _ _ _ _ => er_go rfl rfl,
  fun _ _ _ _ _ _ _ _ => er_go rfl rfl,
  fun _ _ _ _ _ _ _ _ _ _ => er_get1 rfl,
  fun _ _ _ _ _ _ _ _ _ _ _ => er_ic_ge rfl,
  fun _ _ _ _ _ _ _ _ _ => er_go rfl rfl,
  fun _ _ _ _ _ _ _ _ => er_go rfl rfl,
  fun _ _ _ _ _ _ _ _ _ => er_go rfl rfl,
  fun _ _ _ _ _ _ _ _ => er_go rfl rfl,
  fun _ _ _ _ _ _ _ _ _ _ => er_get1 rfl,
  fun _ _ _ _ _ _ _ _ _ => er_go rfl rfl,
  fun _ _ _ _ _ _ _ _ _ _ _ => er_go rfl rfl,
  fun _ _ _ _ _ _ _ _ _ => er_go rfl rfl,
  fun _ _ _ _ _ _ _ _ _ _ _ => er_callV rfl rfl rfl rfl,
  fun _ _ _ _ _ _ _ _ _ _ => er_go rfl rfl,
  fun _ _ _ _ _ _ _ _ _ => er_go rfl rfl,
  fun _ _ _ _ _ _ _ _ => er_go rfl rfl,
  fun _ _ _ _ _ _ _ _ _ _ => er_get1 rfl,
  fun _ _ _ _ _ _ _ _ _ => er_go rfl rfl,
  fun _ _ _ _ _ _ _ _ _ _ => er_callV rfl rfl rfl rfl,
  fun _ _ _ _ _ _ _ _ _ _ => er_if_eq rfl,
  fun _ _ _ _ _ _ _ _ _ => er_go rfl rfl,
  fun _ _ _ _ _ _ _ _ => er_go rfl rfl,
  fun _ _ _ _ _ _ _ _ _ _ => er_get1 rfl,
  fun _ _ _ _ _ _ _ _ _ _ => er_get1 rfl,
  fun _ _ _ _ _ _ _ _ _ => er_go rfl rfl,
  fun _ _ _ _ _ _ _ _ _ _ _ => er_iald rfl,
  fun _ _ _ _ _ _ _ _ _ => er_go rfl rfl,
  fun _ _ _ _ _ _ _ _ _ _ _ => er_ic_ge rfl,
  fun _ _ _ _ _ _ _ _ _ => er_go rfl rfl,
  fun _ _ _ _ _ _ _ _ _ => er_retZ rfl rfl,
  fun _ _ _ _ _ _ _ _ _ => er_go rfl rfl,
  fun _ _ _ _ _ _ _ _ _ => er_go rfl rfl,
  fun _ _ _ _ _ _ _ _ _ => er_go rfl rfl,
  fun _ _ _ _ _ _ _ _ _ => er_go rfl rfl,
  fun _ _ _ _ _ _ _ _ _ => er_go rfl rfl,
  fun _ _ _ _ _ _ _ _ _ => er_retZ rfl rfl⟩
theorem hd19_12 : ∀ (P : Nat × Nat) (l0 : Option Value) (l1 : Option Value) (l3 : Option Value) (l4 : Option Value) (l5 : Option Value) (x0 : Int32) (s : List Value) (h : am_H), am_E P 19 12 [l0, l1, some (.int x0), l3, l4, l5] s h = am_E P 19 13 [l0, l1, some (.int x0), l3, l4, l5] (.int x0 :: s) h := fun _ _ _ _ _ _ _ _ _ => er_go rfl rfl
theorem hd19_38 : ∀ (P : Nat × Nat) (l0 : Option Value) (l1 : Option Value) (l2 : Option Value) (l4 : Option Value) (l5 : Option Value) (a0 : Nat) (s : List Value) (h : am_H), am_E P 19 38 [l0, l1, l2, some (.ref a0), l4, l5] s h = am_E P 19 39 [l0, l1, l2, some (.ref a0), l4, l5] (.ref a0 :: s) h := fun _ _ _ _ _ _ _ _ _ => er_go rfl rfl
theorem hd19_38n : ∀ (P : Nat × Nat) (l0 : Option Value) (l1 : Option Value) (l2 : Option Value) (l4 : Option Value) (l5 : Option Value) (s : List Value) (h : am_H), am_E P 19 38 [l0, l1, l2, some .null, l4, l5] s h = am_E P 19 39 [l0, l1, l2, some .null, l4, l5] (.null :: s) h := fun _ _ _ _ _ _ _ _ => er_go rfl rfl
/-- TwoStepOutputs$Part.<init>(II)V -/
theorem r20 : (∀ (P : Nat × Nat) (l1 : Option Value) (l2 : Option Value) (a0 : Nat) (s : List Value) (h : am_H), am_E P 20 0 [some (.ref a0), l1, l2] s h = am_E P 20 1 [some (.ref a0), l1, l2] (.ref a0 :: s) h) ∧
  (∀ (P : Nat × Nat) (l1 : Option Value) (l2 : Option Value) (s : List Value) (h : am_H), am_E P 20 0 [some .null, l1, l2] s h = am_E P 20 1 [some .null, l1, l2] (.null :: s) h) ∧
  (∀ (P : Nat × Nat) (l0 : Option Value) (l1 : Option Value) (l2 : Option Value) (a0 : Nat) (h : am_H), am_E P 20 1 [l0, l1, l2] [.ref a0] h = am_E P 20 4 [l0, l1, l2] [] h) ∧
  (∀ (P : Nat × Nat) (l1 : Option Value) (l2 : Option Value) (a0 : Nat) (s : List Value) (h : am_H), am_E P 20 4 [some (.ref a0), l1, l2] s h = am_E P 20 5 [some (.ref a0), l1, l2] (.ref a0 :: s) h) ∧
  (∀ (P : Nat × Nat) (l1 : Option Value) (l2 : Option Value) (s : List Value) (h : am_H), am_E P 20 4 [some .null, l1, l2] s h = am_E P 20 5 [some .null, l1, l2] (.null :: s) h) ∧
  (∀ (P : Nat × Nat) (l0 : Option Value) (l1 : Option Value) (l2 : Option Value) (s : List Value) (h : am_H), am_E P 20 5 [l0, l1, l2] s h = am_E P 20 6 [l0, l1, l2] (.int 0 :: s) h) ∧
  (∀ (P : Nat × Nat) (l0 : Option Value) (l1 : Option Value) (l2 : Option Value) (a0 : Nat) (x0 : Int32) (s : List Value) (h : am_H), am_E P 20 6 [l0, l1, l2] (.int x0 :: .ref a0 :: s) h = (am_p1 h a0 5 2 (.int x0)).bind (fun h => am_E P 20 9 [l0, l1, l2] s h)) ∧
  (∀ (P : Nat × Nat) (l1 : Option Value) (l2 : Option Value) (a0 : Nat) (s : List Value) (h : am_H), am_E P 20 9 [some (.ref a0), l1, l2] s h = am_E P 20 10 [some (.ref a0), l1, l2] (.ref a0 :: s) h) ∧
  (∀ (P : Nat × Nat) (l1 : Option Value) (l2 : Option Value) (s : List Value) (h : am_H), am_E P 20 9 [some .null, l1, l2] s h = am_E P 20 10 [some .null, l1, l2] (.null :: s) h) ∧
  (∀ (P : Nat × Nat) (l0 : Option Value) (l1 : Option Value) (l2 : Option Value) (s : List Value) (h : am_H), am_E P 20 10 [l0, l1, l2] s h = am_E P 20 12 [l0, l1, l2] (.int (-6) :: s) h) ∧
  (∀ (P : Nat × Nat) (l0 : Option Value) (l1 : Option Value) (l2 : Option Value) (a0 : Nat) (x0 : Int32) (s : List Value) (h : am_H), am_E P 20 12 [l0, l1, l2] (.int x0 :: .ref a0 :: s) h = (am_p1 h a0 5 3 (.int x0)).bind (fun h => am_E P 20 15 [l0, l1, l2] s h)) ∧
  (∀ (P : Nat × Nat) (l1 : Option Value) (l2 : Option Value) (a0 : Nat) (s : List Value) (h : am_H), am_E P 20 15 [some (.ref a0), l1, l2] s h = am_E P 20 16 [some (.ref a0), l1, l2] (.ref a0 :: s) h) ∧
  (∀ (P : Nat × Nat) (l1 : Option Value) (l2 : Option Value) (s : List Value) (h : am_H), am_E P 20 15 [some .null, l1, l2] s h = am_E P 20 16 [some .null, l1, l2] (.null :: s) h) ∧
  (∀ (P : Nat × Nat) (l0 : Option Value) (l1 : Option Value) (l2 : Option Value) (s : List Value) (h : am_H), am_E P 20 16 [l0, l1, l2] s h = am_E P 20 17 [l0, l1, l2] (.int 0 :: s) h) ∧
  (∀ (P : Nat × Nat) (l0 : Option Value) (l1 : Option Value) (l2 : Option Value) (a0 : Nat) (x0 : Int32) (s : List Value) (h : am_H), am_E P 20 17 [l0, l1, l2] (.int x0 :: .ref a0 :: s) h = (am_p1 h a0 5 4 (.int x0)).bind (fun h => am_E P 20 20 [l0, l1, l2] s h)) ∧
  (∀ (P : Nat × Nat) (l1 : Option Value) (l2 : Option Value) (a0 : Nat) (s : List Value) (h : am_H), am_E P 20 20 [some (.ref a0), l1, l2] s h = am_E P 20 21 [some (.ref a0), l1, l2] (.ref a0 :: s) h) ∧
  (∀ (P : Nat × Nat) (l1 : Option Value) (l2 : Option Value) (s : List Value) (h : am_H), am_E P 20 20 [some .null, l1, l2] s h = am_E P 20 21 [some .null, l1, l2] (.null :: s) h) ∧
  (∀ (P : Nat × Nat) (l0 : Option Value) (l1 : Option Value) (l2 : Option Value) (s : List Value) (h : am_H), am_E P 20 21 [l0, l1, l2] s h = am_E P 20 22 [l0, l1, l2] (.int 0 :: s) h) ∧
  (∀ (P : Nat × Nat) (l0 : Option Value) (l1 : Option Value) (l2 : Option Value) (a0 : Nat) (x0 : Int32) (s : List Value) (h : am_H), am_E P 20 22 [l0, l1, l2] (.int x0 :: .ref a0 :: s) h = (am_p1 h a0 5 5 (.int x0)).bind (fun h => am_E P 20 25 [l0, l1, l2] s h)) ∧
  (∀ (P : Nat × Nat) (l1 : Option Value) (l2 : Option Value) (a0 : Nat) (s : List Value) (h : am_H), am_E P 20 25 [some (.ref a0), l1, l2] s h = am_E P 20 26 [some (.ref a0), l1, l2] (.ref a0 :: s) h) ∧
  (∀ (P : Nat × Nat) (l1 : Option Value) (l2 : Option Value) (s : List Value) (h : am_H), am_E P 20 25 [some .null, l1, l2] s h = am_E P 20 26 [some .null, l1, l2] (.null :: s) h) ∧
  (∀ (P : Nat × Nat) (l0 : Option Value) (l1 : Option Value) (l2 : Option Value) (s : List Value) (h : am_H), am_E P 20 26 [l0, l1, l2] s h = am_E P 20 27 [l0, l1, l2] (.int 0 :: s) h) ∧
  (∀ (P : Nat × Nat) (l0 : Option Value) (l1 : Option Value) (l2 : Option Value) (a0 : Nat) (x0 : Int32) (s : List Value) (h : am_H), am_E P 20 27 [l0, l1, l2] (.int x0 :: .ref a0 :: s) h = (am_p1 h a0 5 6 (.int x0)).bind (fun h => am_E P 20 30 [l0, l1, l2] s h)) ∧
  (∀ (P : Nat × Nat) (l1 : Option Value) (l2 : Option Value) (a0 : Nat) (s : List Value) (h : am_H), am_E P 20 30 [some (.ref a0), l1, l2] s h = am_E P 20 31 [some (.ref a0), l1, l2] (.ref a0 :: s) h) ∧
  (∀ (P : Nat × Nat) (l1 : Option Value) (l2 : Option Value) (s : List Value) (h : am_H), am_E P 20 30 [some .null, l1, l2] s h = am_E P 20 31 [some .null, l1, l2] (.null :: s) h) ∧
  (∀ (P : Nat × Nat) (l0 : Option Value) (l2 : Option Value) (x0 : Int32) (s : List Value) (h : am_H), am_E P 20 31 [l0, some (.int x0), l2] s h = am_E P 20 32 [l0, some (.int x0), l2] (.int x0 :: s) h) ∧
  (∀ (P : Nat × Nat) (l0 : Option Value) (l1 : Option Value) (l2 : Option Value) (a0 : Nat) (x0 : Int32) (s : List Value) (h : am_H), am_E P 20 32 [l0, l1, l2] (.int x0 :: .ref a0 :: s) h = (am_p1 h a0 5 0 (.int x0)).bind (fun h => am_E P 20 35 [l0, l1, l2] s h)) ∧
  (∀ (P : Nat × Nat) (l1 : Option Value) (l2 : Option Value) (a0 : Nat) (s : List Value) (h : am_H), am_E P 20 35 [some (.ref a0), l1, l2] s h = am_E P 20 36 [some (.ref a0), l1, l2] (.ref a0 :: s) h) ∧
  (∀ (P : Nat × Nat) (l1 : Option Value) (l2 : Option Value) (s : List Value) (h : am_H), am_E P 20 35 [some .null, l1, l2] s h = am_E P 20 36 [some .null, l1, l2] (.null :: s) h) ∧
  (∀ (P : Nat × Nat) (l0 : Option Value) (l1 : Option Value) (x0 : Int32) (s : List Value) (h : am_H), am_E P 20 36 [l0, l1, some (.int x0)] s h = am_E P 20 37 [l0, l1, some (.int x0)] (.int x0 :: s) h) ∧
  (∀ (P : Nat × Nat) (l0 : Option Value) (l1 : Option Value) (l2 : Option Value) (a0 : Nat) (x0 : Int32) (s : List Value) (h : am_H), am_E P 20 37 [l0, l1, l2] (.int x0 :: .ref a0 :: s) h = (am_p1 h a0 5 1 (.int x0)).bind (fun h => am_E P 20 40 [l0, l1, l2] s h)) ∧
  (∀ (P : Nat × Nat) (l0 : Option Value) (l1 : Option Value) (l2 : Option Value) (h : am_H), am_E P 20 40 [l0, l1, l2] [] h = some (none, h)) :=
  ⟨fun _ _ _ _ _ _ => er_go rfl rfl,
  fun _ _ _ _ _ => er_go rfl rfl,
  fun _ _ _ _ _ _ => er_go rfl rfl,
  fun _ _ _ _ _ _ => er_go rfl rfl,
  fun _ _ _ _ _ => er_go rfl rfl,
  fun _ _ _ _ _ _ => er_go rfl rfl,
  fun _ _ _ _ _ _ _ _ => er_put1 rfl rfl,
  fun _ _ _ _ _ _ => er_go rfl rfl,
  fun _ _ _ _ _ => er_go rfl rfl,
  fun _ _ _ _ _ _ => er_go rfl rfl,
  fun _ _ _ _ _ _ _ _ => er_put1 rfl rfl,
  fun _ _ _ _ _ _ => er_go rfl rfl,
  fun _ _ _ _ _ => er_go rfl rfl,
  fun _ _ _ _ _ _ => er_go rfl rfl,
  fun _ _ _ _ _ _ _ _ => er_put1 rfl rfl,
  fun _ _ _ _ _ _ => er_go rfl rfl,
  fun _ _ _ _ _ => er_go rfl rfl,
  fun _ _ _ _ _ _ => er_go rfl rfl,
  fun _ _ _ _ _ _ _ _ => er_put1 rfl rfl,
  fun _ _ _ _ _ _ => er_go rfl rfl,
  fun _ _ _ _ _ => er_go rfl rfl,
  fun _ _ _ _ _ _ => er_go rfl rfl,
  fun _ _ _ _ _ _ _ _ => er_put1 rfl rfl,
  fun _ _ _ _ _ _ => er_go rfl rfl,
  fun _ _ _ _ _ => er_go rfl rfl,
  fun _ _ _ _ _ _ => er_go rfl rfl,
  fun _ _ _ _ _ _ _ _ => er_put1 rfl rfl,
  fun _ _ _ _ _ _ => er_go rfl rfl,
  fun _ _ _ _ _ => er_go rfl rfl,
  fun _ _ _ _ _ _ => er_go rfl rfl,
  fun _ _ _ _ _ _ _ _ => er_put1 rfl rfl,
  fun _ _ _ _ _ => er_ret rfl rfl⟩
/-- TwoStepOutputs$Reader.<init>(LTwoStepOutputs$Lines;)V -/
theorem r21 : (∀ (P : Nat × Nat) (l1 : Option Value) (a0 : Nat) (s : List Value) (h : am_H), am_E P 21 0 [some (.ref a0), l1] s h = am_E P 21 1 [some (.ref a0), l1] (.ref a0 :: s) h) ∧
  (∀ (P : Nat × Nat) (l1 : Option Value) (s : List Value) (h : am_H), am_E P 21 0 [some .null, l1] s h = am_E P 21 1 [some .null, l1] (.null :: s) h) ∧
  (∀ (P : Nat × Nat) (l0 : Option Value) (l1 : Option Value) (a0 : Nat) (h : am_H), am_E P 21 1 [l0, l1] [.ref a0] h = am_E P 21 4 [l0, l1] [] h) ∧
  (∀ (P : Nat × Nat) (l1 : Option Value) (a0 : Nat) (s : List Value) (h : am_H), am_E P 21 4 [some (.ref a0), l1] s h = am_E P 21 5 [some (.ref a0), l1] (.ref a0 :: s) h) ∧
  (∀ (P : Nat × Nat) (l1 : Option Value) (s : List Value) (h : am_H), am_E P 21 4 [some .null, l1] s h = am_E P 21 5 [some .null, l1] (.null :: s) h) ∧
  (∀ (P : Nat × Nat) (l0 : Option Value) (l1 : Option Value) (s : List Value) (h : am_H), am_E P 21 5 [l0, l1] s h = am_E P 21 7 [l0, l1] (.int 10 :: s) h) ∧
  (∀ (P : Nat × Nat) (l0 : Option Value) (l1 : Option Value) (x0 : Int32) (s : List Value) (h : am_H), am_E P 21 7 [l0, l1] (.int x0 :: s) h = if x0.toInt < 0 ∨ 1000000 < x0.toInt then none else am_E P 21 9 [l0, l1] (.ref h.1 :: s) (ah_new h x0.toNatClampNeg (ac_I x0.toNatClampNeg (fun _ => 0)))) ∧
  (∀ (P : Nat × Nat) (l0 : Option Value) (l1 : Option Value) (a0 : Nat) (a1 : Nat) (s : List Value) (h : am_H), am_E P 21 9 [l0, l1] (.ref a1 :: .ref a0 :: s) h = (am_p1 h a0 6 1 (.ref a1)).bind (fun h => am_E P 21 12 [l0, l1] s h)) ∧
  (∀ (P : Nat × Nat) (l1 : Option Value) (a0 : Nat) (s : List Value) (h : am_H), am_E P 21 12 [some (.ref a0), l1] s h = am_E P 21 13 [some (.ref a0), l1] (.ref a0 :: s) h) ∧
  (∀ (P : Nat × Nat) (l1 : Option Value) (s : List Value) (h : am_H), am_E P 21 12 [some .null, l1] s h = am_E P 21 13 [some .null, l1] (.null :: s) h) ∧
  (∀ (P : Nat × Nat) (l0 : Option Value) (l1 : Option Value) (s : List Value) (h : am_H), am_E P 21 13 [l0, l1] s h = am_E P 21 14 [l0, l1] (.int 0 :: s) h) ∧
  (∀ (P : Nat × Nat) (l0 : Option Value) (l1 : Option Value) (a0 : Nat) (x0 : Int32) (s : List Value) (h : am_H), am_E P 21 14 [l0, l1] (.int x0 :: .ref a0 :: s) h = (am_p1 h a0 6 2 (.int x0)).bind (fun h => am_E P 21 17 [l0, l1] s h)) ∧
  (∀ (P : Nat × Nat) (l1 : Option Value) (a0 : Nat) (s : List Value) (h : am_H), am_E P 21 17 [some (.ref a0), l1] s h = am_E P 21 18 [some (.ref a0), l1] (.ref a0 :: s) h) ∧
  (∀ (P : Nat × Nat) (l1 : Option Value) (s : List Value) (h : am_H), am_E P 21 17 [some .null, l1] s h = am_E P 21 18 [some .null, l1] (.null :: s) h) ∧
  (∀ (P : Nat × Nat) (l0 : Option Value) (a0 : Nat) (s : List Value) (h : am_H), am_E P 21 18 [l0, some (.ref a0)] s h = am_E P 21 19 [l0, some (.ref a0)] (.ref a0 :: s) h) ∧
  (∀ (P : Nat × Nat) (l0 : Option Value) (s : List Value) (h : am_H), am_E P 21 18 [l0, some .null] s h = am_E P 21 19 [l0, some .null] (.null :: s) h) ∧
  (∀ (P : Nat × Nat) (l0 : Option Value) (l1 : Option Value) (a0 : Nat) (a1 : Nat) (s : List Value) (h : am_H), am_E P 21 19 [l0, l1] (.ref a1 :: .ref a0 :: s) h = (am_p1 h a0 6 0 (.ref a1)).bind (fun h => am_E P 21 22 [l0, l1] s h)) ∧
  (∀ (P : Nat × Nat) (l0 : Option Value) (l1 : Option Value) (h : am_H), am_E P 21 22 [l0, l1] [] h = some (none, h)) :=
  ⟨fun _ _ _ _ _ => er_go rfl rfl,
  fun _ _ _ _ => er_go rfl rfl,
  fun _ _ _ _ _ => er_go rfl rfl,
  fun _ _ _ _ _ => er_go rfl rfl,
  fun _ _ _ _ => er_go rfl rfl,
  fun _ _ _ _ _ => er_go rfl rfl,
  fun _ _ _ _ _ _ => er_newa rfl rfl,
  fun _ _ _ _ _ _ _ => er_put1 rfl rfl,
  fun _ _ _ _ _ => er_go rfl rfl,
  fun _ _ _ _ => er_go rfl rfl,
  fun _ _ _ _ _ => er_go rfl rfl,
  fun _ _ _ _ _ _ _ => er_put1 rfl rfl,
  fun _ _ _ _ _ => er_go rfl rfl,
  fun _ _ _ _ => er_go rfl rfl,
  fun _ _ _ _ _ => er_go rfl rfl,
  fun _ _ _ _ => er_go rfl rfl,
  fun _ _ _ _ _ _ _ => er_put1 rfl rfl,
  fun _ _ _ _ => er_ret rfl rfl⟩
/-- TwoStepOutputs$Reader.goOn(I)I -/
theorem r22 : (∀ (P : Nat × Nat) (l0 : Option Value) (l1 : Option Value) (l2 : Option Value) (l3 : Option Value) (s : List Value) (h : am_H), am_E P 22 0 [l0, l1, l2, l3] s h = am_E P 22 1 [l0, l1, l2, l3] (.int 0 :: s) h) ∧
  (∀ (P : Nat × Nat) (l0 : Option Value) (l1 : Option Value) (l2 : Option Value) (l3 : Option Value) (x0 : Int32) (s : List Value) (h : am_H), am_E P 22 1 [l0, l1, l2, l3] (.int x0 :: s) h = am_E P 22 2 [l0, l1, some (.int x0), l3] s h) ∧
  (∀ (P : Nat × Nat) (l0 : Option Value) (l2 : Option Value) (l3 : Option Value) (x0 : Int32) (s : List Value) (h : am_H), am_E P 22 3 [l0, some (.int x0), l2, l3] s h = am_E P 22 4 [l0, some (.int x0), l2, l3] (.int x0 :: s) h) ∧
  (∀ (P : Nat × Nat) (l0 : Option Value) (l1 : Option Value) (l2 : Option Value) (l3 : Option Value) (x0 : Int32) (x1 : Int32) (s : List Value) (h : am_H), am_E P 22 4 [l0, l1, l2, l3] (.int x1 :: .int x0 :: s) h = if x1 ≤ x0 then am_E P 22 67 [l0, l1, l2, l3] s h else am_E P 22 7 [l0, l1, l2, l3] s h) ∧
  (∀ (P : Nat × Nat) (l1 : Option Value) (l2 : Option Value) (l3 : Option Value) (a0 : Nat) (s : List Value) (h : am_H), am_E P 22 7 [some (.ref a0), l1, l2, l3] s h = am_E P 22 8 [some (.ref a0), l1, l2, l3] (.ref a0 :: s) h) ∧
  (∀ (P : Nat × Nat) (l1 : Option Value) (l2 : Option Value) (l3 : Option Value) (s : List Value) (h : am_H), am_E P 22 7 [some .null, l1, l2, l3] s h = am_E P 22 8 [some .null, l1, l2, l3] (.null :: s) h) ∧
  (∀ (P : Nat × Nat) (l0 : Option Value) (l1 : Option Value) (l2 : Option Value) (l3 : Option Value) (a0 : Nat) (s : List Value) (h : am_H), am_E P 22 8 [l0, l1, l2, l3] (.ref a0 :: s) h = (am_g1 h a0 6 2).bind (fun v => am_E P 22 11 [l0, l1, l2, l3] (v :: s) h)) ∧
  (∀ (P : Nat × Nat) (l1 : Option Value) (l2 : Option Value) (l3 : Option Value) (a0 : Nat) (s : List Value) (h : am_H), am_E P 22 11 [some (.ref a0), l1, l2, l3] s h = am_E P 22 12 [some (.ref a0), l1, l2, l3] (.ref a0 :: s) h) ∧
  (∀ (P : Nat × Nat) (l1 : Option Value) (l2 : Option Value) (l3 : Option Value) (s : List Value) (h : am_H), am_E P 22 11 [some .null, l1, l2, l3] s h = am_E P 22 12 [some .null, l1, l2, l3] (.null :: s) h) ∧
  (∀ (P : Nat × Nat) (l0 : Option Value) (l1 : Option Value) (l2 : Option Value) (l3 : Option Value) (a0 : Nat) (s : List Value) (h : am_H), am_E P 22 12 [l0, l1, l2, l3] (.ref a0 :: s) h = (am_g1 h a0 6 0).bind (fun v => am_E P 22 15 [l0, l1, l2, l3] (v :: s) h)) ∧
  (∀ (P : Nat × Nat) (l0 : Option Value) (l1 : Option Value) (l2 : Option Value) (l3 : Option Value) (a0 : Nat) (v0 : Value) (h : am_H), am_E P 22 15 [l0, l1, l2, l3] [.ref a0, v0] h = if am_cls h a0 = some 3 then (am_E P 24 0 [some (.ref a0)] [] h).bind (fun q => am_E P 22 18 [l0, l1, l2, l3] (q.1.toList ++ [v0]) q.2) else none) ∧
  (∀ (P : Nat × Nat) (l0 : Option Value) (l1 : Option Value) (l2 : Option Value) (l3 : Option Value) (x0 : Int32) (x1 : Int32) (s : List Value) (h : am_H), am_E P 22 18 [l0, l1, l2, l3] (.int x1 :: .int x0 :: s) h = if x1 ≤ x0 then am_E P 22 67 [l0, l1, l2, l3] s h else am_E P 22 21 [l0, l1, l2, l3] s h) ∧
  (∀ (P : Nat × Nat) (l1 : Option Value) (l2 : Option Value) (l3 : Option Value) (a0 : Nat) (s : List Value) (h : am_H), am_E P 22 21 [some (.ref a0), l1, l2, l3] s h = am_E P 22 22 [some (.ref a0), l1, l2, l3] (.ref a0 :: s) h) ∧
  (∀ (P : Nat × Nat) (l1 : Option Value) (l2 : Option Value) (l3 : Option Value) (s : List Value) (h : am_H), am_E P 22 21 [some .null, l1, l2, l3] s h = am_E P 22 22 [some .null, l1, l2, l3] (.null :: s) h) ∧
  (∀ (P : Nat × Nat) (l0 : Option Value) (l1 : Option Value) (l2 : Option Value) (l3 : Option Value) (a0 : Nat) (s : List Value) (h : am_H), am_E P 22 22 [l0, l1, l2, l3] (.ref a0 :: s) h = (am_g1 h a0 6 0).bind (fun v => am_E P 22 25 [l0, l1, l2, l3] (v :: s) h)) ∧
  (∀ (P : Nat × Nat) (l1 : Option Value) (l2 : Option Value) (l3 : Option Value) (a0 : Nat) (s : List Value) (h : am_H), am_E P 22 25 [some (.ref a0), l1, l2, l3] s h = am_E P 22 26 [some (.ref a0), l1, l2, l3] (.ref a0 :: s) h) ∧
  (∀ (P : Nat × Nat) (l1 : Option Value) (l2 : Option Value) (l3 : Option Value) (s : List Value) (h : am_H), am_E P 22 25 [some .null, l1, l2, l3] s h = am_E P 22 26 [some .null, l1, l2, l3] (.null :: s) h) ∧
  (∀ (P : Nat × Nat) (l0 : Option Value) (l1 : Option Value) (l2 : Option Value) (l3 : Option Value) (a0 : Nat) (s : List Value) (h : am_H), am_E P 22 26 [l0, l1, l2, l3] (.ref a0 :: s) h = (am_g1 h a0 6 2).bind (fun v => am_E P 22 29 [l0, l1, l2, l3] (v :: s) h)) ∧
  (∀ (P : Nat × Nat) (l0 : Option Value) (l1 : Option Value) (l2 : Option Value) (l3 : Option Value) (s : List Value) (h : am_H), am_E P 22 29 [l0, l1, l2, l3] s h = am_E P 22 30 [l0, l1, l2, l3] (.int 0 :: s) h) ∧
  (∀ (P : Nat × Nat) (l0 : Option Value) (l1 : Option Value) (l2 : Option Value) (l3 : Option Value) (a0 : Nat) (x0 : Int32) (x1 : Int32) (h : am_H), am_E P 22 30 [l0, l1, l2, l3] [.int x1, .int x0, .ref a0] h = if am_cls h a0 = some 3 then (am_E P 26 0 [some (.ref a0), some (.int x0), some (.int x1)] [] h).bind (fun q => am_E P 22 33 [l0, l1, l2, l3] (q.1.toList ++ []) q.2) else none) ∧
  (∀ (P : Nat × Nat) (l0 : Option Value) (l1 : Option Value) (l2 : Option Value) (l3 : Option Value) (x0 : Int32) (s : List Value) (h : am_H), am_E P 22 33 [l0, l1, l2, l3] (.int x0 :: s) h = am_E P 22 34 [l0, l1, l2, some (.int x0)] s h) ∧
  (∀ (P : Nat × Nat) (l0 : Option Value) (l1 : Option Value) (l2 : Option Value) (x0 : Int32) (s : List Value) (h : am_H), am_E P 22 34 [l0, l1, l2, some (.int x0)] s h = am_E P 22 35 [l0, l1, l2, some (.int x0)] (.int x0 :: s) h) ∧
  (∀ (P : Nat × Nat) (l0 : Option Value) (l1 : Option Value) (l2 : Option Value) (l3 : Option Value) (x0 : Int32) (h : am_H), am_E P 22 35 [l0, l1, l2, l3] [.int x0] h = (am_E P 55 0 [some (.int x0)] [] h).bind (fun q => am_E P 22 38 [l0, l1, l2, l3] (q.1.toList ++ []) q.2)) ∧
  (∀ (P : Nat × Nat) (l0 : Option Value) (l1 : Option Value) (l2 : Option Value) (l3 : Option Value) (x0 : Int32) (s : List Value) (h : am_H), am_E P 22 38 [l0, l1, l2, l3] (.int x0 :: s) h = if x0 = 0 then am_E P 22 51 [l0, l1, l2, l3] s h else am_E P 22 41 [l0, l1, l2, l3] s h) ∧
  (∀ (P : Nat × Nat) (l1 : Option Value) (l2 : Option Value) (l3 : Option Value) (a0 : Nat) (s : List Value) (h : am_H), am_E P 22 41 [some (.ref a0), l1, l2, l3] s h = am_E P 22 42 [some (.ref a0), l1, l2, l3] (.ref a0 :: s) h) ∧
  (∀ (P : Nat × Nat) (l1 : Option Value) (l2 : Option Value) (l3 : Option Value) (s : List Value) (h : am_H), am_E P 22 41 [some .null, l1, l2, l3] s h = am_E P 22 42 [some .null, l1, l2, l3] (.null :: s) h) ∧
  (∀ (P : Nat × Nat) (l0 : Option Value) (l1 : Option Value) (l2 : Option Value) (l3 : Option Value) (a0 : Nat) (s : List Value) (h : am_H), am_E P 22 42 [l0, l1, l2, l3] (.ref a0 :: s) h = (am_g1 h a0 6 1).bind (fun v => am_E P 22 45 [l0, l1, l2, l3] (v :: s) h)) ∧
  (∀ (P : Nat × Nat) (l0 : Option Value) (l1 : Option Value) (l2 : Option Value) (x0 : Int32) (s : List Value) (h : am_H), am_E P 22 45 [l0, l1, l2, some (.int x0)] s h = am_E P 22 46 [l0, l1, l2, some (.int x0)] (.int x0 :: s) h) ∧
  (∀ (P : Nat × Nat) (l0 : Option Value) (l1 : Option Value) (l2 : Option Value) (l3 : Option Value) (x0 : Int32) (a0 : Nat) (s : List Value) (h : am_H), am_E P 22 46 [l0, l1, l2, l3] (.int x0 :: .ref a0 :: s) h = am_E P 22 47 [l0, l1, l2, l3] (.int x0 :: .ref a0 :: .int x0 :: .ref a0 :: s) h) ∧
  (∀ (P : Nat × Nat) (l0 : Option Value) (l1 : Option Value) (l2 : Option Value) (l3 : Option Value) (x0 : Int32) (a0 : Nat) (s : List Value) (h : am_H), am_E P 22 47 [l0, l1, l2, l3] (.int x0 :: .ref a0 :: s) h = (am_iald h a0 x0).bind (fun v => am_E P 22 48 [l0, l1, l2, l3] (.int v :: s) h)) ∧
  (∀ (P : Nat × Nat) (l0 : Option Value) (l1 : Option Value) (l2 : Option Value) (l3 : Option Value) (s : List Value) (h : am_H), am_E P 22 48 [l0, l1, l2, l3] s h = am_E P 22 49 [l0, l1, l2, l3] (.int 1 :: s) h) ∧
  (∀ (P : Nat × Nat) (l0 : Option Value) (l1 : Option Value) (l2 : Option Value) (l3 : Option Value) (x0 : Int32) (x1 : Int32) (s : List Value) (h : am_H), am_E P 22 49 [l0, l1, l2, l3] (.int x1 :: .int x0 :: s) h = am_E P 22 50 [l0, l1, l2, l3] (.int (x0 + x1) :: s) h) ∧
  (∀ (P : Nat × Nat) (l0 : Option Value) (l1 : Option Value) (l2 : Option Value) (l3 : Option Value) (x0 : Int32) (x1 : Int32) (a0 : Nat) (s : List Value) (h : am_H), am_E P 22 50 [l0, l1, l2, l3] (.int x1 :: .int x0 :: .ref a0 :: s) h = (am_iast h a0 x0 x1).bind (fun h => am_E P 22 51 [l0, l1, l2, l3] s h)) ∧
  (∀ (P : Nat × Nat) (l1 : Option Value) (l2 : Option Value) (l3 : Option Value) (a0 : Nat) (s : List Value) (h : am_H), am_E P 22 51 [some (.ref a0), l1, l2, l3] s h = am_E P 22 52 [some (.ref a0), l1, l2, l3] (.ref a0 :: s) h) ∧
  (∀ (P : Nat × Nat) (l1 : Option Value) (l2 : Option Value) (l3 : Option Value) (s : List Value) (h : am_H), am_E P 22 51 [some .null, l1, l2, l3] s h = am_E P 22 52 [some .null, l1, l2, l3] (.null :: s) h) ∧
  (∀ (P : Nat × Nat) (l0 : Option Value) (l1 : Option Value) (l2 : Option Value) (l3 : Option Value) (a0 : Nat) (s : List Value) (h : am_H), am_E P 22 52 [l0, l1, l2, l3] (.ref a0 :: s) h = am_E P 22 53 [l0, l1, l2, l3] (.ref a0 :: .ref a0 :: s) h) ∧
  (∀ (P : Nat × Nat) (l0 : Option Value) (l1 : Option Value) (l2 : Option Value) (l3 : Option Value) (a0 : Nat) (s : List Value) (h : am_H), am_E P 22 53 [l0, l1, l2, l3] (.ref a0 :: s) h = (am_g1 h a0 6 2).bind (fun v => am_E P 22 56 [l0, l1, l2, l3] (v :: s) h)) ∧
  (∀ (P : Nat × Nat) (l0 : Option Value) (l1 : Option Value) (l2 : Option Value) (l3 : Option Value) (s : List Value) (h : am_H), am_E P 22 56 [l0, l1, l2, l3] s h = am_E P 22 57 [l0, l1, l2, l3] (.int 1 :: s) h) ∧
  (∀ (P : Nat × Nat) (l0 : Option Value) (l1 : Option Value) (l2 : Option Value) (l3 : Option Value) (x0 : Int32) (x1 : Int32) (s : List Value) (h : am_H), am_E P 22 57 [l0, l1, l2, l3] (.int x1 :: .int x0 :: s) h = am_E P 22 58 [l0, l1, l2, l3] (.int (x0 + x1) :: s) h) ∧
  (∀ (P : Nat × Nat) (l0 : Option Value) (l1 : Option Value) (l2 : Option Value) (l3 : Option Value) (a0 : Nat) (x0 : Int32) (s : List Value) (h : am_H), am_E P 22 58 [l0, l1, l2, l3] (.int x0 :: .ref a0 :: s) h = (am_p1 h a0 6 2 (.int x0)).bind (fun h => am_E P 22 61 [l0, l1, l2, l3] s h)) ∧
  (∀ (P : Nat × Nat) (l0 : Option Value) (l1 : Option Value) (l3 : Option Value) (x0 : Int32) (s : List Value) (h : am_H), am_E P 22 61 [l0, l1, some (.int x0), l3] s h = am_E P 22 64 [l0, l1, some (.int (x0 + 1)), l3] s h) ∧
  (∀ (P : Nat × Nat) (l0 : Option Value) (l1 : Option Value) (l2 : Option Value) (l3 : Option Value) (s : List Value) (h : am_H), am_E P 22 64 [l0, l1, l2, l3] s h = am_E P 22 2 [l0, l1, l2, l3] s h) ∧
  (∀ (P : Nat × Nat) (l0 : Option Value) (l1 : Option Value) (l3 : Option Value) (x0 : Int32) (s : List Value) (h : am_H), am_E P 22 67 [l0, l1, some (.int x0), l3] s h = am_E P 22 68 [l0, l1, some (.int x0), l3] (.int x0 :: s) h) ∧
  (∀ (P : Nat × Nat) (l0 : Option Value) (l1 : Option Value) (l2 : Option Value) (l3 : Option Value) (x0 : Int32) (h : am_H), am_E P 22 68 [l0, l1, l2, l3] [.int x0] h = some (some (.int x0), h)) :=
  ⟨fun _ _ _ _ _ _ _ => er_go rfl rfl,
  fun _ _ _ _ _ _ _ _ => er_go rfl rfl,
  fun _ _ _ _ _ _ _ => er_go rfl rfl,
  fun _ _ _ _ _ _ _ _ _ => er_ic_ge rfl,
  fun _ _ _ _ _ _ _ => er_go rfl rfl,
  fun _ _ _ _ _ _ => er_go rfl rfl,
  fun _ _ _ _ _ _ _ _ => er_get1 rfl,
  fun _ _ _ _ _ _ _ => er_go rfl rfl,
  fun _ _ _ _ _ _ => er_go rfl rfl,
  fun _ _ _ _ _ _ _ _ => er_get1 rfl,
  fun _ _ _ _ _ _ _ _ => er_callV rfl rfl rfl rfl,
  fun _ _ _ _ _ _ _ _ _ => er_ic_ge rfl,
  fun _ _ _ _ _ _ _ => er_go rfl rfl,
  fun _ _ _ _ _ _ => er_go rfl rfl,
  fun _ _ _ _ _ _ _ _ => er_get1 rfl,
  fun _ _ _ _ _ _ _ => er_go rfl rfl,
  fun _ _ _ _ _ _ => er_go rfl rfl,
  fun _ _ _ _ _ _ _ _ => er_get1 rfl,
  fun _ _ _ _ _ _ _ => er_go rfl rfl,
  fun _ _ _ _ _ _ _ _ _ => er_callV rfl rfl rfl rfl,
  fun _ _ _ _ _ _ _ _ => er_go rfl rfl,
  fun _ _ _ _ _ _ _ => er_go rfl rfl,
  fun _ _ _ _ _ _ _ => er_callS rfl rfl rfl,
  fun _ _ _ _ _ _ _ _ => er_if_eq rfl,
  fun _ _ _ _ _ _ _ => er_go rfl rfl,
  fun _ _ _ _ _ _ => er_go rfl rfl,
  fun _ _ _ _ _ _ _ _ => er_get1 rfl,
  fun _ _ _ _ _ _ _ => er_go rfl rfl,
  fun _ _ _ _ _ _ _ _ _ => er_go rfl rfl,
  fun _ _ _ _ _ _ _ _ _ => er_iald rfl,
  fun _ _ _ _ _ _ _ => er_go rfl rfl,
  fun _ _ _ _ _ _ _ _ _ => er_go rfl rfl,
  fun _ _ _ _ _ _ _ _ _ _ => er_iast rfl,
  fun _ _ _ _ _ _ _ => er_go rfl rfl,
  fun _ _ _ _ _ _ => er_go rfl rfl,
  fun _ _ _ _ _ _ _ _ => er_go rfl rfl,
  fun _ _ _ _ _ _ _ _ => er_get1 rfl,
  fun _ _ _ _ _ _ _ => er_go rfl rfl,
  fun _ _ _ _ _ _ _ _ _ => er_go rfl rfl,
  fun _ _ _ _ _ _ _ _ _ => er_put1 rfl rfl,
  fun _ _ _ _ _ _ _ => er_go rfl rfl,
  fun _ _ _ _ _ _ _ => er_go rfl rfl,
  fun _ _ _ _ _ _ _ => er_go rfl rfl,
  fun _ _ _ _ _ _ _ => er_ret rfl rfl⟩
theorem hd22_2 : ∀ (P : Nat × Nat) (l0 : Option Value) (l1 : Option Value) (l3 : Option Value) (x0 : Int32) (s : List Value) (h : am_H), am_E P 22 2 [l0, l1, some (.int x0), l3] s h = am_E P 22 3 [l0, l1, some (.int x0), l3] (.int x0 :: s) h := fun _ _ _ _ _ _ _ => er_go rfl rfl
/-- TwoStepOutputs$Rows.<init>(I)V -/
theorem r23 : (∀ (P : Nat × Nat) (l1 : Option Value) (a0 : Nat) (s : List Value) (h : am_H), am_E P 23 0 [some (.ref a0), l1] s h = am_E P 23 1 [some (.ref a0), l1] (.ref a0 :: s) h) ∧
  (∀ (P : Nat × Nat) (l1 : Option Value) (s : List Value) (h : am_H), am_E P 23 0 [some .null, l1] s h = am_E P 23 1 [some .null, l1] (.null :: s) h) ∧
  (∀ (P : Nat × Nat) (l0 : Option Value) (l1 : Option Value) (a0 : Nat) (h : am_H), am_E P 23 1 [l0, l1] [.ref a0] h = am_E P 23 4 [l0, l1] [] h) ∧
  (∀ (P : Nat × Nat) (l1 : Option Value) (a0 : Nat) (s : List Value) (h : am_H), am_E P 23 4 [some (.ref a0), l1] s h = am_E P 23 5 [some (.ref a0), l1] (.ref a0 :: s) h) ∧
  (∀ (P : Nat × Nat) (l1 : Option Value) (s : List Value) (h : am_H), am_E P 23 4 [some .null, l1] s h = am_E P 23 5 [some .null, l1] (.null :: s) h) ∧
  (∀ (P : Nat × Nat) (l0 : Option Value) (l1 : Option Value) (s : List Value) (h : am_H), am_E P 23 5 [l0, l1] s h = am_E P 23 6 [l0, l1] (.int 0 :: s) h) ∧
  (∀ (P : Nat × Nat) (l0 : Option Value) (l1 : Option Value) (a0 : Nat) (x0 : Int32) (s : List Value) (h : am_H), am_E P 23 6 [l0, l1] (.int x0 :: .ref a0 :: s) h = (am_pR h a0 2 (.int x0)).bind (fun h => am_E P 23 9 [l0, l1] s h)) ∧
  (∀ (P : Nat × Nat) (l1 : Option Value) (a0 : Nat) (s : List Value) (h : am_H), am_E P 23 9 [some (.ref a0), l1] s h = am_E P 23 10 [some (.ref a0), l1] (.ref a0 :: s) h) ∧
  (∀ (P : Nat × Nat) (l1 : Option Value) (s : List Value) (h : am_H), am_E P 23 9 [some .null, l1] s h = am_E P 23 10 [some .null, l1] (.null :: s) h) ∧
  (∀ (P : Nat × Nat) (l0 : Option Value) (l1 : Option Value) (s : List Value) (h : am_H), am_E P 23 10 [l0, l1] s h = am_E P 23 11 [l0, l1] (.int 1 :: s) h) ∧
  (∀ (P : Nat × Nat) (l0 : Option Value) (x0 : Int32) (s : List Value) (h : am_H), am_E P 23 11 [l0, some (.int x0)] s h = am_E P 23 12 [l0, some (.int x0)] (.int x0 :: s) h) ∧
  (∀ (P : Nat × Nat) (l0 : Option Value) (l1 : Option Value) (x0 : Int32) (x1 : Int32) (v0 : Value) (h : am_H), am_E P 23 12 [l0, l1] [.int x1, .int x0, v0] h = (am_E P 111 0 [some (.int x0), some (.int x1)] [] h).bind (fun q => am_E P 23 15 [l0, l1] (q.1.toList ++ [v0]) q.2)) ∧
  (∀ (P : Nat × Nat) (l0 : Option Value) (l1 : Option Value) (a0 : Nat) (x0 : Int32) (s : List Value) (h : am_H), am_E P 23 15 [l0, l1] (.int x0 :: .ref a0 :: s) h = (am_pR h a0 0 (.int x0)).bind (fun h => am_E P 23 18 [l0, l1] s h)) ∧
  (∀ (P : Nat × Nat) (l1 : Option Value) (a0 : Nat) (s : List Value) (h : am_H), am_E P 23 18 [some (.ref a0), l1] s h = am_E P 23 19 [some (.ref a0), l1] (.ref a0 :: s) h) ∧
  (∀ (P : Nat × Nat) (l1 : Option Value) (s : List Value) (h : am_H), am_E P 23 18 [some .null, l1] s h = am_E P 23 19 [some .null, l1] (.null :: s) h) ∧
  (∀ (P : Nat × Nat) (l1 : Option Value) (a0 : Nat) (s : List Value) (h : am_H), am_E P 23 19 [some (.ref a0), l1] s h = am_E P 23 20 [some (.ref a0), l1] (.ref a0 :: s) h) ∧
  (∀ (P : Nat × Nat) (l1 : Option Value) (s : List Value) (h : am_H), am_E P 23 19 [some .null, l1] s h = am_E P 23 20 [some .null, l1] (.null :: s) h) ∧
  (∀ (P : Nat × Nat) (l0 : Option Value) (l1 : Option Value) (a0 : Nat) (s : List Value) (h : am_H), am_E P 23 20 [l0, l1] (.ref a0 :: s) h = (am_gR h a0 0).bind (fun v => am_E P 23 23 [l0, l1] (v :: s) h)) ∧
  (∀ (P : Nat × Nat) (l0 : Option Value) (l1 : Option Value) (s : List Value) (h : am_H), am_E P 23 23 [l0, l1] s h = am_E P 23 25 [l0, l1] (.int 32 :: s) h) ∧
  (∀ (P : Nat × Nat) (l0 : Option Value) (l1 : Option Value) (x0 : Int32) (x1 : Int32) (s : List Value) (h : am_H), am_E P 23 25 [l0, l1] (.int x1 :: .int x0 :: s) h = am_E P 23 26 [l0, l1] (.int (x0 * x1) :: s) h) ∧
  (∀ (P : Nat × Nat) (l0 : Option Value) (l1 : Option Value) (x0 : Int32) (s : List Value) (h : am_H), am_E P 23 26 [l0, l1] (.int x0 :: s) h = if x0.toInt < 0 ∨ 1000000 < x0.toInt then none else am_E P 23 28 [l0, l1] (.ref h.1 :: s) (ah_new h x0.toNatClampNeg (ac_I x0.toNatClampNeg (fun _ => 0)))) ∧
  (∀ (P : Nat × Nat) (l0 : Option Value) (l1 : Option Value) (a0 : Nat) (a1 : Nat) (s : List Value) (h : am_H), am_E P 23 28 [l0, l1] (.ref a1 :: .ref a0 :: s) h = (am_pR h a0 1 (.ref a1)).bind (fun h => am_E P 23 31 [l0, l1] s h)) ∧
  (∀ (P : Nat × Nat) (l0 : Option Value) (l1 : Option Value) (h : am_H), am_E P 23 31 [l0, l1] [] h = some (none, h)) :=
  ⟨fun _ _ _ _ _ => er_go rfl rfl,
  fun _ _ _ _ => er_go rfl rfl,
  fun _ _ _ _ _ => er_go rfl rfl,
  fun _ _ _ _ _ => er_go rfl rfl,
  fun _ _ _ _ => er_go rfl rfl,
  fun _ _ _ _ _ => er_go rfl rfl,
  fun _ _ _ _ _ _ _ => er_putR rfl rfl rfl,
  fun _ _ _ _ _ => er_go rfl rfl,
  fun _ _ _ _ => er_go rfl rfl,
  fun _ _ _ _ _ => er_go rfl rfl,
  fun _ _ _ _ _ => er_go rfl rfl,
  fun _ _ _ _ _ _ _ => er_callS rfl rfl rfl,
  fun _ _ _ _ _ _ _ => er_putR rfl rfl rfl,
  fun _ _ _ _ _ => er_go rfl rfl,
  fun _ _ _ _ => er_go rfl rfl,
  fun _ _ _ _ _ => er_go rfl rfl,
  fun _ _ _ _ => er_go rfl rfl,
  fun _ _ _ _ _ _ => er_getR rfl,
  fun _ _ _ _ _ => er_go rfl rfl,
  fun _ _ _ _ _ _ _ => er_go rfl rfl,
  fun _ _ _ _ _ _ => er_newa rfl rfl,
  fun _ _ _ _ _ _ _ => er_putR rfl rfl rfl,
  fun _ _ _ _ => er_ret rfl rfl⟩
/-- TwoStepOutputs$Rows.count()I -/
theorem r24 : (∀ (P : Nat × Nat) (a0 : Nat) (s : List Value) (h : am_H), am_E P 24 0 [some (.ref a0)] s h = am_E P 24 1 [some (.ref a0)] (.ref a0 :: s) h) ∧
  (∀ (P : Nat × Nat) (s : List Value) (h : am_H), am_E P 24 0 [some .null] s h = am_E P 24 1 [some .null] (.null :: s) h) ∧
  (∀ (P : Nat × Nat) (l0 : Option Value) (a0 : Nat) (s : List Value) (h : am_H), am_E P 24 1 [l0] (.ref a0 :: s) h = (am_gR h a0 2).bind (fun v => am_E P 24 4 [l0] (v :: s) h)) ∧
  (∀ (P : Nat × Nat) (l0 : Option Value) (x0 : Int32) (h : am_H), am_E P 24 4 [l0] [.int x0] h = some (some (.int x0), h)) :=
  ⟨fun _ _ _ _ => er_go rfl rfl,
  fun _ _ _ => er_go rfl rfl,
  fun _ _ _ _ _ => er_getR rfl,
  fun _ _ _ _ => er_ret rfl rfl⟩
/-- TwoStepOutputs$Rows.has(II)Z -/
theorem r25 : (∀ (P : Nat × Nat) (l0 : Option Value) (l2 : Option Value) (x0 : Int32) (s : List Value) (h : am_H), am_E P 25 0 [l0, some (.int x0), l2] s h = am_E P 25 1 [l0, some (.int x0), l2] (.int x0 :: s) h) ∧
  (∀ (P : Nat × Nat) (l0 : Option Value) (l1 : Option Value) (l2 : Option Value) (x0 : Int32) (s : List Value) (h : am_H), am_E P 25 1 [l0, l1, l2] (.int x0 :: s) h = if x0 < 0 then am_E P 25 28 [l0, l1, l2] s h else am_E P 25 4 [l0, l1, l2] s h) ∧
  (∀ (P : Nat × Nat) (l0 : Option Value) (l2 : Option Value) (x0 : Int32) (s : List Value) (h : am_H), am_E P 25 4 [l0, some (.int x0), l2] s h = am_E P 25 5 [l0, some (.int x0), l2] (.int x0 :: s) h) ∧
  (∀ (P : Nat × Nat) (l1 : Option Value) (l2 : Option Value) (a0 : Nat) (s : List Value) (h : am_H), am_E P 25 5 [some (.ref a0), l1, l2] s h = am_E P 25 6 [some (.ref a0), l1, l2] (.ref a0 :: s) h) ∧
  (∀ (P : Nat × Nat) (l1 : Option Value) (l2 : Option Value) (s : List Value) (h : am_H), am_E P 25 5 [some .null, l1, l2] s h = am_E P 25 6 [some .null, l1, l2] (.null :: s) h) ∧
  (∀ (P : Nat × Nat) (l0 : Option Value) (l1 : Option Value) (l2 : Option Value) (a0 : Nat) (s : List Value) (h : am_H), am_E P 25 6 [l0, l1, l2] (.ref a0 :: s) h = (am_gR h a0 2).bind (fun v => am_E P 25 9 [l0, l1, l2] (v :: s) h)) ∧
  (∀ (P : Nat × Nat) (l0 : Option Value) (l1 : Option Value) (l2 : Option Value) (x0 : Int32) (x1 : Int32) (s : List Value) (h : am_H), am_E P 25 9 [l0, l1, l2] (.int x1 :: .int x0 :: s) h = if x1 ≤ x0 then am_E P 25 28 [l0, l1, l2] s h else am_E P 25 12 [l0, l1, l2] s h) ∧
  (∀ (P : Nat × Nat) (l0 : Option Value) (l1 : Option Value) (x0 : Int32) (s : List Value) (h : am_H), am_E P 25 12 [l0, l1, some (.int x0)] s h = am_E P 25 13 [l0, l1, some (.int x0)] (.int x0 :: s) h) ∧
  (∀ (P : Nat × Nat) (l0 : Option Value) (l1 : Option Value) (l2 : Option Value) (x0 : Int32) (s : List Value) (h : am_H), am_E P 25 13 [l0, l1, l2] (.int x0 :: s) h = if x0 < 0 then am_E P 25 28 [l0, l1, l2] s h else am_E P 25 16 [l0, l1, l2] s h) ∧
  (∀ (P : Nat × Nat) (l0 : Option Value) (l1 : Option Value) (x0 : Int32) (s : List Value) (h : am_H), am_E P 25 16 [l0, l1, some (.int x0)] s h = am_E P 25 17 [l0, l1, some (.int x0)] (.int x0 :: s) h) ∧
  (∀ (P : Nat × Nat) (l1 : Option Value) (l2 : Option Value) (a0 : Nat) (s : List Value) (h : am_H), am_E P 25 17 [some (.ref a0), l1, l2] s h = am_E P 25 18 [some (.ref a0), l1, l2] (.ref a0 :: s) h) ∧
  (∀ (P : Nat × Nat) (l1 : Option Value) (l2 : Option Value) (s : List Value) (h : am_H), am_E P 25 17 [some .null, l1, l2] s h = am_E P 25 18 [some .null, l1, l2] (.null :: s) h) ∧
  (∀ (P : Nat × Nat) (l0 : Option Value) (l1 : Option Value) (l2 : Option Value) (a0 : Nat) (s : List Value) (h : am_H), am_E P 25 18 [l0, l1, l2] (.ref a0 :: s) h = (am_gR h a0 0).bind (fun v => am_E P 25 21 [l0, l1, l2] (v :: s) h)) ∧
  (∀ (P : Nat × Nat) (l0 : Option Value) (l1 : Option Value) (l2 : Option Value) (x0 : Int32) (x1 : Int32) (s : List Value) (h : am_H), am_E P 25 21 [l0, l1, l2] (.int x1 :: .int x0 :: s) h = if x1 ≤ x0 then am_E P 25 28 [l0, l1, l2] s h else am_E P 25 24 [l0, l1, l2] s h) ∧
  (∀ (P : Nat × Nat) (l0 : Option Value) (l1 : Option Value) (l2 : Option Value) (s : List Value) (h : am_H), am_E P 25 24 [l0, l1, l2] s h = am_E P 25 25 [l0, l1, l2] (.int 1 :: s) h) ∧
  (∀ (P : Nat × Nat) (l0 : Option Value) (l1 : Option Value) (l2 : Option Value) (s : List Value) (h : am_H), am_E P 25 25 [l0, l1, l2] s h = am_E P 25 29 [l0, l1, l2] s h) ∧
  (∀ (P : Nat × Nat) (l0 : Option Value) (l1 : Option Value) (l2 : Option Value) (s : List Value) (h : am_H), am_E P 25 28 [l0, l1, l2] s h = am_E P 25 29 [l0, l1, l2] (.int 0 :: s) h) ∧
  (∀ (P : Nat × Nat) (l0 : Option Value) (l1 : Option Value) (l2 : Option Value) (x0 : Int32) (h : am_H), am_E P 25 29 [l0, l1, l2] [.int x0] h = if x0 = 0 ∨ x0 = 1 then some (some (.int x0), h) else none) :=
  ⟨fun _ _ _ _ _ _ => er_go rfl rfl,
  fun _ _ _ _ _ _ _ => er_if_lt rfl,
  fun _ _ _ _ _ _ => er_go rfl rfl,
  fun _ _ _ _ _ _ => er_go rfl rfl,
  fun _ _ _ _ _ => er_go rfl rfl,
  fun _ _ _ _ _ _ _ => er_getR rfl,
  fun _ _ _ _ _ _ _ _ => er_ic_ge rfl,
  fun _ _ _ _ _ _ => er_go rfl rfl,
  fun _ _ _ _ _ _ _ => er_if_lt rfl,
  fun _ _ _ _ _ _ => er_go rfl rfl,
  fun _ _ _ _ _ _ => er_go rfl rfl,
  fun _ _ _ _ _ => er_go rfl rfl,
  fun _ _ _ _ _ _ _ => er_getR rfl,
  fun _ _ _ _ _ _ _ _ => er_ic_ge rfl,
  fun _ _ _ _ _ _ => er_go rfl rfl,
  fun _ _ _ _ _ _ => er_go rfl rfl,
  fun _ _ _ _ _ _ => er_go rfl rfl,
  fun _ _ _ _ _ _ => er_retZ rfl rfl⟩
/-- TwoStepOutputs$Rows.cell(II)I -/
theorem r26 : (∀ (P : Nat × Nat) (l1 : Option Value) (l2 : Option Value) (a0 : Nat) (s : List Value) (h : am_H), am_E P 26 0 [some (.ref a0), l1, l2] s h = am_E P 26 1 [some (.ref a0), l1, l2] (.ref a0 :: s) h) ∧
  (∀ (P : Nat × Nat) (l1 : Option Value) (l2 : Option Value) (s : List Value) (h : am_H), am_E P 26 0 [some .null, l1, l2] s h = am_E P 26 1 [some .null, l1, l2] (.null :: s) h) ∧
  (∀ (P : Nat × Nat) (l0 : Option Value) (l2 : Option Value) (x0 : Int32) (s : List Value) (h : am_H), am_E P 26 1 [l0, some (.int x0), l2] s h = am_E P 26 2 [l0, some (.int x0), l2] (.int x0 :: s) h) ∧
  (∀ (P : Nat × Nat) (l0 : Option Value) (l1 : Option Value) (x0 : Int32) (s : List Value) (h : am_H), am_E P 26 2 [l0, l1, some (.int x0)] s h = am_E P 26 3 [l0, l1, some (.int x0)] (.int x0 :: s) h) ∧
  (∀ (P : Nat × Nat) (l0 : Option Value) (l1 : Option Value) (l2 : Option Value) (a0 : Nat) (x0 : Int32) (x1 : Int32) (h : am_H), am_E P 26 3 [l0, l1, l2] [.int x1, .int x0, .ref a0] h = if am_cls h a0 = some 2 ∨ am_cls h a0 = some 3 then (am_E P 25 0 [some (.ref a0), some (.int x0), some (.int x1)] [] h).bind (fun q => am_E P 26 6 [l0, l1, l2] (q.1.toList ++ []) q.2) else none) ∧
  (∀ (P : Nat × Nat) (l0 : Option Value) (l1 : Option Value) (l2 : Option Value) (x0 : Int32) (s : List Value) (h : am_H), am_E P 26 6 [l0, l1, l2] (.int x0 :: s) h = if x0 = 0 then am_E P 26 25 [l0, l1, l2] s h else am_E P 26 9 [l0, l1, l2] s h) ∧
  (∀ (P : Nat × Nat) (l1 : Option Value) (l2 : Option Value) (a0 : Nat) (s : List Value) (h : am_H), am_E P 26 9 [some (.ref a0), l1, l2] s h = am_E P 26 10 [some (.ref a0), l1, l2] (.ref a0 :: s) h) ∧
  (∀ (P : Nat × Nat) (l1 : Option Value) (l2 : Option Value) (s : List Value) (h : am_H), am_E P 26 9 [some .null, l1, l2] s h = am_E P 26 10 [some .null, l1, l2] (.null :: s) h) ∧
  (∀ (P : Nat × Nat) (l0 : Option Value) (l1 : Option Value) (l2 : Option Value) (a0 : Nat) (s : List Value) (h : am_H), am_E P 26 10 [l0, l1, l2] (.ref a0 :: s) h = (am_gR h a0 1).bind (fun v => am_E P 26 13 [l0, l1, l2] (v :: s) h)) ∧
  (∀ (P : Nat × Nat) (l0 : Option Value) (l2 : Option Value) (x0 : Int32) (s : List Value) (h : am_H), am_E P 26 13 [l0, some (.int x0), l2] s h = am_E P 26 14 [l0, some (.int x0), l2] (.int x0 :: s) h) ∧
  (∀ (P : Nat × Nat) (l1 : Option Value) (l2 : Option Value) (a0 : Nat) (s : List Value) (h : am_H), am_E P 26 14 [some (.ref a0), l1, l2] s h = am_E P 26 15 [some (.ref a0), l1, l2] (.ref a0 :: s) h) ∧
  (∀ (P : Nat × Nat) (l1 : Option Value) (l2 : Option Value) (s : List Value) (h : am_H), am_E P 26 14 [some .null, l1, l2] s h = am_E P 26 15 [some .null, l1, l2] (.null :: s) h) ∧
  (∀ (P : Nat × Nat) (l0 : Option Value) (l1 : Option Value) (l2 : Option Value) (a0 : Nat) (s : List Value) (h : am_H), am_E P 26 15 [l0, l1, l2] (.ref a0 :: s) h = (am_gR h a0 0).bind (fun v => am_E P 26 18 [l0, l1, l2] (v :: s) h)) ∧
  (∀ (P : Nat × Nat) (l0 : Option Value) (l1 : Option Value) (l2 : Option Value) (x0 : Int32) (x1 : Int32) (s : List Value) (h : am_H), am_E P 26 18 [l0, l1, l2] (.int x1 :: .int x0 :: s) h = am_E P 26 19 [l0, l1, l2] (.int (x0 * x1) :: s) h) ∧
  (∀ (P : Nat × Nat) (l0 : Option Value) (l1 : Option Value) (x0 : Int32) (s : List Value) (h : am_H), am_E P 26 19 [l0, l1, some (.int x0)] s h = am_E P 26 20 [l0, l1, some (.int x0)] (.int x0 :: s) h) ∧
  (∀ (P : Nat × Nat) (l0 : Option Value) (l1 : Option Value) (l2 : Option Value) (x0 : Int32) (x1 : Int32) (s : List Value) (h : am_H), am_E P 26 20 [l0, l1, l2] (.int x1 :: .int x0 :: s) h = am_E P 26 21 [l0, l1, l2] (.int (x0 + x1) :: s) h) ∧
  (∀ (P : Nat × Nat) (l0 : Option Value) (l1 : Option Value) (l2 : Option Value) (x0 : Int32) (a0 : Nat) (s : List Value) (h : am_H), am_E P 26 21 [l0, l1, l2] (.int x0 :: .ref a0 :: s) h = (am_iald h a0 x0).bind (fun v => am_E P 26 22 [l0, l1, l2] (.int v :: s) h)) ∧
  (∀ (P : Nat × Nat) (l0 : Option Value) (l1 : Option Value) (l2 : Option Value) (s : List Value) (h : am_H), am_E P 26 22 [l0, l1, l2] s h = am_E P 26 27 [l0, l1, l2] s h) ∧
  (∀ (P : Nat × Nat) (l0 : Option Value) (l1 : Option Value) (l2 : Option Value) (s : List Value) (h : am_H), am_E P 26 25 [l0, l1, l2] s h = am_E P 26 27 [l0, l1, l2] (.int (-6) :: s) h) ∧
  (∀ (P : Nat × Nat) (l0 : Option Value) (l1 : Option Value) (l2 : Option Value) (x0 : Int32) (h : am_H), am_E P 26 27 [l0, l1, l2] [.int x0] h = some (some (.int x0), h)) :=
  ⟨fun _ _ _ _ _ _ => er_go rfl rfl,
  fun _ _ _ _ _ => er_go rfl rfl,
  fun _ _ _ _ _ _ => er_go rfl rfl,
  fun _ _ _ _ _ _ => er_go rfl rfl,
  fun _ _ _ _ _ _ _ _ => er_callR rfl rfl rfl rfl,
  fun _ _ _ _ _ _ _ => er_if_eq rfl,
  fun _ _ _ _ _ _ => er_go rfl rfl,
  fun _ _ _ _ _ => er_go rfl rfl,
  fun _ _ _ _ _ _ _ => er_getR rfl,
  fun _ _ _ _ _ _ => er_go rfl rfl,
  fun _ _ _ _ _ _ => er_go rfl rfl,
  fun _ _ _ _ _ => er_go rfl rfl,
  fun _ _ _ _ _ _ _ => er_getR rfl,
  fun _ _ _ _ _ _ _ _ => er_go rfl rfl,
  fun _ _ _ _ _ _ => er_go rfl rfl,
  fun _ _ _ _ _ _ _ _ => er_go rfl rfl,
  fun _ _ _ _ _ _ _ _ => er_iald rfl,
  fun _ _ _ _ _ _ => er_go rfl rfl,
  fun _ _ _ _ _ _ => er_go rfl rfl,
  fun _ _ _ _ _ _ => er_ret rfl rfl⟩
/-- TwoStepOutputs$Rows.set(III)V -/
theorem r27 : (∀ (P : Nat × Nat) (l1 : Option Value) (l2 : Option Value) (l3 : Option Value) (a0 : Nat) (s : List Value) (h : am_H), am_E P 27 0 [some (.ref a0), l1, l2, l3] s h = am_E P 27 1 [some (.ref a0), l1, l2, l3] (.ref a0 :: s) h) ∧
  (∀ (P : Nat × Nat) (l1 : Option Value) (l2 : Option Value) (l3 : Option Value) (s : List Value) (h : am_H), am_E P 27 0 [some .null, l1, l2, l3] s h = am_E P 27 1 [some .null, l1, l2, l3] (.null :: s) h) ∧
  (∀ (P : Nat × Nat) (l0 : Option Value) (l2 : Option Value) (l3 : Option Value) (x0 : Int32) (s : List Value) (h : am_H), am_E P 27 1 [l0, some (.int x0), l2, l3] s h = am_E P 27 2 [l0, some (.int x0), l2, l3] (.int x0 :: s) h) ∧
  (∀ (P : Nat × Nat) (l0 : Option Value) (l1 : Option Value) (l3 : Option Value) (x0 : Int32) (s : List Value) (h : am_H), am_E P 27 2 [l0, l1, some (.int x0), l3] s h = am_E P 27 3 [l0, l1, some (.int x0), l3] (.int x0 :: s) h) ∧
  (∀ (P : Nat × Nat) (l0 : Option Value) (l1 : Option Value) (l2 : Option Value) (l3 : Option Value) (a0 : Nat) (x0 : Int32) (x1 : Int32) (h : am_H), am_E P 27 3 [l0, l1, l2, l3] [.int x1, .int x0, .ref a0] h = if am_cls h a0 = some 2 ∨ am_cls h a0 = some 3 then (am_E P 25 0 [some (.ref a0), some (.int x0), some (.int x1)] [] h).bind (fun q => am_E P 27 6 [l0, l1, l2, l3] (q.1.toList ++ []) q.2) else none) ∧
  (∀ (P : Nat × Nat) (l0 : Option Value) (l1 : Option Value) (l2 : Option Value) (l3 : Option Value) (x0 : Int32) (s : List Value) (h : am_H), am_E P 27 6 [l0, l1, l2, l3] (.int x0 :: s) h = if x0 = 0 then am_E P 27 23 [l0, l1, l2, l3] s h else am_E P 27 9 [l0, l1, l2, l3] s h) ∧
  (∀ (P : Nat × Nat) (l1 : Option Value) (l2 : Option Value) (l3 : Option Value) (a0 : Nat) (s : List Value) (h : am_H), am_E P 27 9 [some (.ref a0), l1, l2, l3] s h = am_E P 27 10 [some (.ref a0), l1, l2, l3] (.ref a0 :: s) h) ∧
  (∀ (P : Nat × Nat) (l1 : Option Value) (l2 : Option Value) (l3 : Option Value) (s : List Value) (h : am_H), am_E P 27 9 [some .null, l1, l2, l3] s h = am_E P 27 10 [some .null, l1, l2, l3] (.null :: s) h) ∧
  (∀ (P : Nat × Nat) (l0 : Option Value) (l1 : Option Value) (l2 : Option Value) (l3 : Option Value) (a0 : Nat) (s : List Value) (h : am_H), am_E P 27 10 [l0, l1, l2, l3] (.ref a0 :: s) h = (am_gR h a0 1).bind (fun v => am_E P 27 13 [l0, l1, l2, l3] (v :: s) h)) ∧
  (∀ (P : Nat × Nat) (l0 : Option Value) (l2 : Option Value) (l3 : Option Value) (x0 : Int32) (s : List Value) (h : am_H), am_E P 27 13 [l0, some (.int x0), l2, l3] s h = am_E P 27 14 [l0, some (.int x0), l2, l3] (.int x0 :: s) h) ∧
  (∀ (P : Nat × Nat) (l1 : Option Value) (l2 : Option Value) (l3 : Option Value) (a0 : Nat) (s : List Value) (h : am_H), am_E P 27 14 [some (.ref a0), l1, l2, l3] s h = am_E P 27 15 [some (.ref a0), l1, l2, l3] (.ref a0 :: s) h) ∧
  (∀ (P : Nat × Nat) (l1 : Option Value) (l2 : Option Value) (l3 : Option Value) (s : List Value) (h : am_H), am_E P 27 14 [some .null, l1, l2, l3] s h = am_E P 27 15 [some .null, l1, l2, l3] (.null :: s) h) ∧
  (∀ (P : Nat × Nat) (l0 : Option Value) (l1 : Option Value) (l2 : Option Value) (l3 : Option Value) (a0 : Nat) (s : List Value) (h : am_H), am_E P 27 15 [l0, l1, l2, l3] (.ref a0 :: s) h = (am_gR h a0 0).bind (fun v => am_E P 27 18 [l0, l1, l2, l3] (v :: s) h)) ∧
  (∀ (P : Nat × Nat) (l0 : Option Value) (l1 : Option Value) (l2 : Option Value) (l3 : Option Value) (x0 : Int32) (x1 : Int32) (s : List Value) (h : am_H), am_E P 27 18 [l0, l1, l2, l3] (.int x1 :: .int x0 :: s) h = am_E P 27 19 [l0, l1, l2, l3] (.int (x0 * x1) :: s) h) ∧
  (∀ (P : Nat × Nat) (l0 : Option Value) (l1 : Option Value) (l3 : Option Value) (x0 : Int32) (s : List Value) (h : am_H), am_E P 27 19 [l0, l1, some (.int x0), l3] s h = am_E P 27 20 [l0, l1, some (.int x0), l3] (.int x0 :: s) h) ∧
  (∀ (P : Nat × Nat) (l0 : Option Value) (l1 : Option Value) (l2 : Option Value) (l3 : Option Value) (x0 : Int32) (x1 : Int32) (s : List Value) (h : am_H), am_E P 27 20 [l0, l1, l2, l3] (.int x1 :: .int x0 :: s) h = am_E P 27 21 [l0, l1, l2, l3] (.int (x0 + x1) :: s) h) ∧
  (∀ (P : Nat × Nat) (l0 : Option Value) (l1 : Option Value) (l2 : Option Value) (x0 : Int32) (s : List Value) (h : am_H), am_E P 27 21 [l0, l1, l2, some (.int x0)] s h = am_E P 27 22 [l0, l1, l2, some (.int x0)] (.int x0 :: s) h) ∧
  (∀ (P : Nat × Nat) (l0 : Option Value) (l1 : Option Value) (l2 : Option Value) (l3 : Option Value) (x0 : Int32) (x1 : Int32) (a0 : Nat) (s : List Value) (h : am_H), am_E P 27 22 [l0, l1, l2, l3] (.int x1 :: .int x0 :: .ref a0 :: s) h = (am_iast h a0 x0 x1).bind (fun h => am_E P 27 23 [l0, l1, l2, l3] s h)) ∧
  (∀ (P : Nat × Nat) (l0 : Option Value) (l1 : Option Value) (l2 : Option Value) (l3 : Option Value) (h : am_H), am_E P 27 23 [l0, l1, l2, l3] [] h = some (none, h)) :=
  ⟨fun _ _ _ _ _ _ _ => er_go rfl rfl,
  fun _ _ _ _ _ _ => er_go rfl rfl,
  fun _ _ _ _ _ _ _ => er_go rfl rfl,
  fun _ _ _ _ _ _ _ => er_go rfl rfl,
  fun _ _ _ _ _ _ _ _ _ => er_callR rfl rfl rfl rfl,
  fun _ _ _ _ _ _ _ _ => er_if_eq rfl,
  fun _ _ _ _ _ _ _ => er_go rfl rfl,
  fun _ _ _ _ _ _ => er_go rfl rfl,
  fun _ _ _ _ _ _ _ _ => er_getR rfl,
  fun _ _ _ _ _ _ _ => er_go rfl rfl,
  fun _ _ _ _ _ _ _ => er_go rfl rfl,
  fun _ _ _ _ _ _ => er_go rfl rfl,
  fun _ _ _ _ _ _ _ _ => er_getR rfl,
  fun _ _ _ _ _ _ _ _ _ => er_go rfl rfl,
  fun _ _ _ _ _ _ _ => er_go rfl rfl,
  fun _ _ _ _ _ _ _ _ _ => er_go rfl rfl,
  fun _ _ _ _ _ _ _ => er_go rfl rfl,
  fun _ _ _ _ _ _ _ _ _ _ => er_iast rfl,
  fun _ _ _ _ _ _ => er_ret rfl rfl⟩
/-- TwoStepOutputs$Rows.addRow()I -/
theorem r28 : (∀ (P : Nat × Nat) (l1 : Option Value) (a0 : Nat) (s : List Value) (h : am_H), am_E P 28 0 [some (.ref a0), l1] s h = am_E P 28 1 [some (.ref a0), l1] (.ref a0 :: s) h) ∧
  (∀ (P : Nat × Nat) (l1 : Option Value) (s : List Value) (h : am_H), am_E P 28 0 [some .null, l1] s h = am_E P 28 1 [some .null, l1] (.null :: s) h) ∧
  (∀ (P : Nat × Nat) (l0 : Option Value) (l1 : Option Value) (a0 : Nat) (s : List Value) (h : am_H), am_E P 28 1 [l0, l1] (.ref a0 :: s) h = (am_gR h a0 2).bind (fun v => am_E P 28 4 [l0, l1] (v :: s) h)) ∧
  (∀ (P : Nat × Nat) (l0 : Option Value) (l1 : Option Value) (s : List Value) (h : am_H), am_E P 28 4 [l0, l1] s h = am_E P 28 5 [l0, l1] (.int 1 :: s) h) ∧
  (∀ (P : Nat × Nat) (l0 : Option Value) (l1 : Option Value) (x0 : Int32) (x1 : Int32) (s : List Value) (h : am_H), am_E P 28 5 [l0, l1] (.int x1 :: .int x0 :: s) h = am_E P 28 6 [l0, l1] (.int (x0 + x1) :: s) h) ∧
  (∀ (P : Nat × Nat) (l1 : Option Value) (a0 : Nat) (s : List Value) (h : am_H), am_E P 28 6 [some (.ref a0), l1] s h = am_E P 28 7 [some (.ref a0), l1] (.ref a0 :: s) h) ∧
  (∀ (P : Nat × Nat) (l1 : Option Value) (s : List Value) (h : am_H), am_E P 28 6 [some .null, l1] s h = am_E P 28 7 [some .null, l1] (.null :: s) h) ∧
  (∀ (P : Nat × Nat) (l0 : Option Value) (l1 : Option Value) (a0 : Nat) (s : List Value) (h : am_H), am_E P 28 7 [l0, l1] (.ref a0 :: s) h = (am_gR h a0 0).bind (fun v => am_E P 28 10 [l0, l1] (v :: s) h)) ∧
  (∀ (P : Nat × Nat) (l0 : Option Value) (l1 : Option Value) (x0 : Int32) (x1 : Int32) (s : List Value) (h : am_H), am_E P 28 10 [l0, l1] (.int x1 :: .int x0 :: s) h = am_E P 28 11 [l0, l1] (.int (x0 * x1) :: s) h) ∧
  (∀ (P : Nat × Nat) (l0 : Option Value) (l1 : Option Value) (x0 : Int32) (s : List Value) (h : am_H), am_E P 28 11 [l0, l1] (.int x0 :: s) h = am_E P 28 12 [l0, some (.int x0)] s h) ∧
  (∀ (P : Nat × Nat) (l0 : Option Value) (x0 : Int32) (s : List Value) (h : am_H), am_E P 28 12 [l0, some (.int x0)] s h = am_E P 28 13 [l0, some (.int x0)] (.int x0 :: s) h) ∧
  (∀ (P : Nat × Nat) (l1 : Option Value) (a0 : Nat) (s : List Value) (h : am_H), am_E P 28 13 [some (.ref a0), l1] s h = am_E P 28 14 [some (.ref a0), l1] (.ref a0 :: s) h) ∧
  (∀ (P : Nat × Nat) (l1 : Option Value) (s : List Value) (h : am_H), am_E P 28 13 [some .null, l1] s h = am_E P 28 14 [some .null, l1] (.null :: s) h) ∧
  (∀ (P : Nat × Nat) (l0 : Option Value) (l1 : Option Value) (a0 : Nat) (s : List Value) (h : am_H), am_E P 28 14 [l0, l1] (.ref a0 :: s) h = (am_gR h a0 1).bind (fun v => am_E P 28 17 [l0, l1] (v :: s) h)) ∧
  (∀ (P : Nat × Nat) (l0 : Option Value) (l1 : Option Value) (a0 : Nat) (s : List Value) (h : am_H), am_E P 28 17 [l0, l1] (.ref a0 :: s) h = (am_alen h a0).bind (fun v => am_E P 28 18 [l0, l1] (.int v :: s) h)) ∧
  (∀ (P : Nat × Nat) (l0 : Option Value) (l1 : Option Value) (x0 : Int32) (x1 : Int32) (s : List Value) (h : am_H), am_E P 28 18 [l0, l1] (.int x1 :: .int x0 :: s) h = if x0 ≤ x1 then am_E P 28 35 [l0, l1] s h else am_E P 28 21 [l0, l1] s h) ∧
  (∀ (P : Nat × Nat) (l1 : Option Value) (a0 : Nat) (s : List Value) (h : am_H), am_E P 28 21 [some (.ref a0), l1] s h = am_E P 28 22 [some (.ref a0), l1] (.ref a0 :: s) h) ∧
  (∀ (P : Nat × Nat) (l1 : Option Value) (s : List Value) (h : am_H), am_E P 28 21 [some .null, l1] s h = am_E P 28 22 [some .null, l1] (.null :: s) h) ∧
  (∀ (P : Nat × Nat) (l1 : Option Value) (a0 : Nat) (s : List Value) (h : am_H), am_E P 28 22 [some (.ref a0), l1] s h = am_E P 28 23 [some (.ref a0), l1] (.ref a0 :: s) h) ∧
  (∀ (P : Nat × Nat) (l1 : Option Value) (s : List Value) (h : am_H), am_E P 28 22 [some .null, l1] s h = am_E P 28 23 [some .null, l1] (.null :: s) h) ∧
  (∀ (P : Nat × Nat) (l0 : Option Value) (l1 : Option Value) (a0 : Nat) (s : List Value) (h : am_H), am_E P 28 23 [l0, l1] (.ref a0 :: s) h = (am_gR h a0 1).bind (fun v => am_E P 28 26 [l0, l1] (v :: s) h)) ∧
  (∀ (P : Nat × Nat) (l0 : Option Value) (l1 : Option Value) (s : List Value) (h : am_H), am_E P 28 26 [l0, l1] s h = am_E P 28 27 [l0, l1] (.int 2 :: s) h) ∧
  (∀ (P : Nat × Nat) (l0 : Option Value) (x0 : Int32) (s : List Value) (h : am_H), am_E P 28 27 [l0, some (.int x0)] s h = am_E P 28 28 [l0, some (.int x0)] (.int x0 :: s) h) ∧
  (∀ (P : Nat × Nat) (l0 : Option Value) (l1 : Option Value) (x0 : Int32) (x1 : Int32) (s : List Value) (h : am_H), am_E P 28 28 [l0, l1] (.int x1 :: .int x0 :: s) h = am_E P 28 29 [l0, l1] (.int (x0 * x1) :: s) h) ∧
  (∀ (P : Nat × Nat) (l0 : Option Value) (l1 : Option Value) (a1 : Nat) (x1 : Int32) (v0 : Value) (h : am_H), am_E P 28 29 [l0, l1] [.int x1, .ref a1, v0] h = (am_E P 126 0 [some (.ref a1), some (.int x1), none] [] h).bind (fun q => am_E P 28 32 [l0, l1] (q.1.toList ++ [v0]) q.2)) ∧
  (∀ (P : Nat × Nat) (l0 : Option Value) (l1 : Option Value) (a0 : Nat) (a1 : Nat) (s : List Value) (h : am_H), am_E P 28 32 [l0, l1] (.ref a1 :: .ref a0 :: s) h = (am_pR h a0 1 (.ref a1)).bind (fun h => am_E P 28 35 [l0, l1] s h)) ∧
  (∀ (P : Nat × Nat) (l1 : Option Value) (a0 : Nat) (s : List Value) (h : am_H), am_E P 28 35 [some (.ref a0), l1] s h = am_E P 28 36 [some (.ref a0), l1] (.ref a0 :: s) h) ∧
  (∀ (P : Nat × Nat) (l1 : Option Value) (s : List Value) (h : am_H), am_E P 28 35 [some .null, l1] s h = am_E P 28 36 [some .null, l1] (.null :: s) h) ∧
  (∀ (P : Nat × Nat) (l0 : Option Value) (l1 : Option Value) (a0 : Nat) (s : List Value) (h : am_H), am_E P 28 36 [l0, l1] (.ref a0 :: s) h = am_E P 28 37 [l0, l1] (.ref a0 :: .ref a0 :: s) h) ∧
  (∀ (P : Nat × Nat) (l0 : Option Value) (l1 : Option Value) (a0 : Nat) (s : List Value) (h : am_H), am_E P 28 37 [l0, l1] (.ref a0 :: s) h = (am_gR h a0 2).bind (fun v => am_E P 28 40 [l0, l1] (v :: s) h)) ∧
  (∀ (P : Nat × Nat) (l0 : Option Value) (l1 : Option Value) (x0 : Int32) (a0 : Nat) (s : List Value) (h : am_H), am_E P 28 40 [l0, l1] (.int x0 :: .ref a0 :: s) h = am_E P 28 41 [l0, l1] (.int x0 :: .ref a0 :: .int x0 :: s) h) ∧
  (∀ (P : Nat × Nat) (l0 : Option Value) (l1 : Option Value) (s : List Value) (h : am_H), am_E P 28 41 [l0, l1] s h = am_E P 28 42 [l0, l1] (.int 1 :: s) h) ∧
  (∀ (P : Nat × Nat) (l0 : Option Value) (l1 : Option Value) (x0 : Int32) (x1 : Int32) (s : List Value) (h : am_H), am_E P 28 42 [l0, l1] (.int x1 :: .int x0 :: s) h = am_E P 28 43 [l0, l1] (.int (x0 + x1) :: s) h) ∧
  (∀ (P : Nat × Nat) (l0 : Option Value) (l1 : Option Value) (a0 : Nat) (x0 : Int32) (s : List Value) (h : am_H), am_E P 28 43 [l0, l1] (.int x0 :: .ref a0 :: s) h = (am_pR h a0 2 (.int x0)).bind (fun h => am_E P 28 46 [l0, l1] s h)) ∧
  (∀ (P : Nat × Nat) (l0 : Option Value) (l1 : Option Value) (x0 : Int32) (h : am_H), am_E P 28 46 [l0, l1] [.int x0] h = some (some (.int x0), h)) :=
  ⟨fun _ _ _ _ _ => er_go rfl rfl,
  fun _ _ _ _ => er_go rfl rfl,
  fun _ _ _ _ _ _ => er_getR rfl,
  fun _ _ _ _ _ => er_go rfl rfl,
  fun _ _ _ _ _ _ _ => er_go rfl rfl,
  fun _ _ _ _ _ => er_go rfl rfl,
  fun _ _ _ _ => er_go rfl rfl,
  fun _ _ _ _ _ _ => er_getR rfl,
  fun _ _ _ _ _ _ _ => er_go rfl rfl,
  fun _ _ _ _ _ _ => er_go rfl rfl,
  fun _ _ _ _ _ => er_go rfl rfl,
  fun _ _ _ _ _ => er_go rfl rfl,
  fun _ _ _ _ => er_go rfl rfl,
  fun _ _ _ _ _ _ => er_getR rfl,
  fun _ _ _ _ _ _ => er_alen rfl,
  fun _ _ _ _ _ _ _ => er_ic_le rfl,
  fun _ _ _ _ _ => er_go rfl rfl,
  fun _ _ _ _ => er_go rfl rfl,
  fun _ _ _ _ _ => er_go rfl rfl,
  fun _ _ _ _ => er_go rfl rfl,
  fun _ _ _ _ _ _ => er_getR rfl,
  fun _ _ _ _ _ => er_go rfl rfl,
  fun _ _ _ _ _ => er_go rfl rfl,
  fun _ _ _ _ _ _ _ => er_go rfl rfl,
  fun _ _ _ _ _ _ _ => er_callS rfl rfl rfl,
  fun _ _ _ _ _ _ _ => er_putR rfl rfl rfl,
  fun _ _ _ _ _ => er_go rfl rfl,
  fun _ _ _ _ => er_go rfl rfl,
  fun _ _ _ _ _ _ => er_go rfl rfl,
  fun _ _ _ _ _ _ => er_getR rfl,
  fun _ _ _ _ _ _ _ => er_go rfl rfl,
  fun _ _ _ _ _ => er_go rfl rfl,
  fun _ _ _ _ _ _ _ => er_go rfl rfl,
  fun _ _ _ _ _ _ _ => er_putR rfl rfl rfl,
  fun _ _ _ _ _ => er_ret rfl rfl⟩
/-- TwoStepOutputs$Table.<init>()V -/
theorem r29 : (∀ (P : Nat × Nat) (a0 : Nat) (s : List Value) (h : am_H), am_E P 29 0 [some (.ref a0)] s h = am_E P 29 1 [some (.ref a0)] (.ref a0 :: s) h) ∧
  (∀ (P : Nat × Nat) (s : List Value) (h : am_H), am_E P 29 0 [some .null] s h = am_E P 29 1 [some .null] (.null :: s) h) ∧
  (∀ (P : Nat × Nat) (l0 : Option Value) (a0 : Nat) (h : am_H), am_E P 29 1 [l0] [.ref a0] h = am_E P 29 4 [l0] [] h) ∧
  (∀ (P : Nat × Nat) (a0 : Nat) (s : List Value) (h : am_H), am_E P 29 4 [some (.ref a0)] s h = am_E P 29 5 [some (.ref a0)] (.ref a0 :: s) h) ∧
  (∀ (P : Nat × Nat) (s : List Value) (h : am_H), am_E P 29 4 [some .null] s h = am_E P 29 5 [some .null] (.null :: s) h) ∧
  (∀ (P : Nat × Nat) (l0 : Option Value) (s : List Value) (h : am_H), am_E P 29 5 [l0] s h = am_E P 29 7 [l0] (.int 10 :: s) h) ∧
  (∀ (P : Nat × Nat) (l0 : Option Value) (x0 : Int32) (s : List Value) (h : am_H), am_E P 29 7 [l0] (.int x0 :: s) h = if x0.toInt < 0 ∨ 1000000 < x0.toInt then none else am_E P 29 9 [l0] (.ref h.1 :: s) (ah_new h x0.toNatClampNeg (ac_I x0.toNatClampNeg (fun _ => 0)))) ∧
  (∀ (P : Nat × Nat) (l0 : Option Value) (a0 : Nat) (a1 : Nat) (s : List Value) (h : am_H), am_E P 29 9 [l0] (.ref a1 :: .ref a0 :: s) h = (am_p1 h a0 7 0 (.ref a1)).bind (fun h => am_E P 29 12 [l0] s h)) ∧
  (∀ (P : Nat × Nat) (a0 : Nat) (s : List Value) (h : am_H), am_E P 29 12 [some (.ref a0)] s h = am_E P 29 13 [some (.ref a0)] (.ref a0 :: s) h) ∧
  (∀ (P : Nat × Nat) (s : List Value) (h : am_H), am_E P 29 12 [some .null] s h = am_E P 29 13 [some .null] (.null :: s) h) ∧
  (∀ (P : Nat × Nat) (l0 : Option Value) (s : List Value) (h : am_H), am_E P 29 13 [l0] s h = am_E P 29 15 [l0] (.int 10 :: s) h) ∧
  (∀ (P : Nat × Nat) (l0 : Option Value) (x0 : Int32) (s : List Value) (h : am_H), am_E P 29 15 [l0] (.int x0 :: s) h = if x0.toInt < 0 ∨ 1000000 < x0.toInt then none else am_E P 29 17 [l0] (.ref h.1 :: s) (ah_new h x0.toNatClampNeg (ac_I x0.toNatClampNeg (fun _ => 0)))) ∧
  (∀ (P : Nat × Nat) (l0 : Option Value) (a0 : Nat) (a1 : Nat) (s : List Value) (h : am_H), am_E P 29 17 [l0] (.ref a1 :: .ref a0 :: s) h = (am_p1 h a0 7 1 (.ref a1)).bind (fun h => am_E P 29 20 [l0] s h)) ∧
  (∀ (P : Nat × Nat) (a0 : Nat) (s : List Value) (h : am_H), am_E P 29 20 [some (.ref a0)] s h = am_E P 29 21 [some (.ref a0)] (.ref a0 :: s) h) ∧
  (∀ (P : Nat × Nat) (s : List Value) (h : am_H), am_E P 29 20 [some .null] s h = am_E P 29 21 [some .null] (.null :: s) h) ∧
  (∀ (P : Nat × Nat) (l0 : Option Value) (s : List Value) (h : am_H), am_E P 29 21 [l0] s h = am_E P 29 23 [l0] (.int 10 :: s) h) ∧
  (∀ (P : Nat × Nat) (l0 : Option Value) (x0 : Int32) (s : List Value) (h : am_H), am_E P 29 23 [l0] (.int x0 :: s) h = if x0.toInt < 0 ∨ 1000000 < x0.toInt then none else am_E P 29 25 [l0] (.ref h.1 :: s) (ah_new h x0.toNatClampNeg (ac_I x0.toNatClampNeg (fun _ => 0)))) ∧
  (∀ (P : Nat × Nat) (l0 : Option Value) (a0 : Nat) (a1 : Nat) (s : List Value) (h : am_H), am_E P 29 25 [l0] (.ref a1 :: .ref a0 :: s) h = (am_p1 h a0 7 2 (.ref a1)).bind (fun h => am_E P 29 28 [l0] s h)) ∧
  (∀ (P : Nat × Nat) (a0 : Nat) (s : List Value) (h : am_H), am_E P 29 28 [some (.ref a0)] s h = am_E P 29 29 [some (.ref a0)] (.ref a0 :: s) h) ∧
  (∀ (P : Nat × Nat) (s : List Value) (h : am_H), am_E P 29 28 [some .null] s h = am_E P 29 29 [some .null] (.null :: s) h) ∧
  (∀ (P : Nat × Nat) (l0 : Option Value) (s : List Value) (h : am_H), am_E P 29 29 [l0] s h = am_E P 29 30 [l0] (.int 0 :: s) h) ∧
  (∀ (P : Nat × Nat) (l0 : Option Value) (a0 : Nat) (x0 : Int32) (s : List Value) (h : am_H), am_E P 29 30 [l0] (.int x0 :: .ref a0 :: s) h = (am_p1 h a0 7 3 (.int x0)).bind (fun h => am_E P 29 33 [l0] s h)) ∧
  (∀ (P : Nat × Nat) (a0 : Nat) (s : List Value) (h : am_H), am_E P 29 33 [some (.ref a0)] s h = am_E P 29 34 [some (.ref a0)] (.ref a0 :: s) h) ∧
  (∀ (P : Nat × Nat) (s : List Value) (h : am_H), am_E P 29 33 [some .null] s h = am_E P 29 34 [some .null] (.null :: s) h) ∧
  (∀ (P : Nat × Nat) (l0 : Option Value) (a0 : Nat) (s : List Value) (h : am_H), am_E P 29 34 [l0] (.ref a0 :: s) h = (am_g1 h a0 7 1).bind (fun v => am_E P 29 37 [l0] (v :: s) h)) ∧
  (∀ (P : Nat × Nat) (l0 : Option Value) (s : List Value) (h : am_H), am_E P 29 37 [l0] s h = am_E P 29 39 [l0] (.int (-6) :: s) h) ∧
  (∀ (P : Nat × Nat) (l0 : Option Value) (a1 : Nat) (x1 : Int32) (h : am_H), am_E P 29 39 [l0] [.int x1, .ref a1] h = (am_E P 123 0 [some (.ref a1), some (.int x1), none, none] [] h).bind (fun q => am_E P 29 42 [l0] (q.1.toList ++ []) q.2)) ∧
  (∀ (P : Nat × Nat) (l0 : Option Value) (h : am_H), am_E P 29 42 [l0] [] h = some (none, h)) :=
  ⟨fun _ _ _ _ => er_go rfl rfl,
  fun _ _ _ => er_go rfl rfl,
  fun _ _ _ _ => er_go rfl rfl,
  fun _ _ _ _ => er_go rfl rfl,
  fun _ _ _ => er_go rfl rfl,
  fun _ _ _ _ => er_go rfl rfl,
  fun _ _ _ _ _ => er_newa rfl rfl,
  fun _ _ _ _ _ _ => er_put1 rfl rfl,
  fun _ _ _ _ => er_go rfl rfl,
  fun _ _ _ => er_go rfl rfl,
  fun _ _ _ _ => er_go rfl rfl,
  fun _ _ _ _ _ => er_newa rfl rfl,
  fun _ _ _ _ _ _ => er_put1 rfl rfl,
  fun _ _ _ _ => er_go rfl rfl,
  fun _ _ _ => er_go rfl rfl,
  fun _ _ _ _ => er_go rfl rfl,
  fun _ _ _ _ _ => er_newa rfl rfl,
  fun _ _ _ _ _ _ => er_put1 rfl rfl,
  fun _ _ _ _ => er_go rfl rfl,
  fun _ _ _ => er_go rfl rfl,
  fun _ _ _ _ => er_go rfl rfl,
  fun _ _ _ _ _ _ => er_put1 rfl rfl,
  fun _ _ _ _ => er_go rfl rfl,
  fun _ _ _ => er_go rfl rfl,
  fun _ _ _ _ _ => er_get1 rfl,
  fun _ _ _ _ => er_go rfl rfl,
  fun _ _ _ _ _ => er_callS rfl rfl rfl,
  fun _ _ _ => er_ret rfl rfl⟩
/-- TwoStepOutputs$Table.has(I)Z -/
theorem r30 : (∀ (P : Nat × Nat) (l0 : Option Value) (x0 : Int32) (s : List Value) (h : am_H), am_E P 30 0 [l0, some (.int x0)] s h = am_E P 30 1 [l0, some (.int x0)] (.int x0 :: s) h) ∧
  (∀ (P : Nat × Nat) (l0 : Option Value) (l1 : Option Value) (x0 : Int32) (h : am_H), am_E P 30 1 [l0, l1] [.int x0] h = (am_E P 55 0 [some (.int x0)] [] h).bind (fun q => am_E P 30 4 [l0, l1] (q.1.toList ++ []) q.2)) ∧
  (∀ (P : Nat × Nat) (l0 : Option Value) (l1 : Option Value) (x0 : Int32) (s : List Value) (h : am_H), am_E P 30 4 [l0, l1] (.int x0 :: s) h = if x0 = 0 then am_E P 30 22 [l0, l1] s h else am_E P 30 7 [l0, l1] s h) ∧
  (∀ (P : Nat × Nat) (l1 : Option Value) (a0 : Nat) (s : List Value) (h : am_H), am_E P 30 7 [some (.ref a0), l1] s h = am_E P 30 8 [some (.ref a0), l1] (.ref a0 :: s) h) ∧
  (∀ (P : Nat × Nat) (l1 : Option Value) (s : List Value) (h : am_H), am_E P 30 7 [some .null, l1] s h = am_E P 30 8 [some .null, l1] (.null :: s) h) ∧
  (∀ (P : Nat × Nat) (l0 : Option Value) (l1 : Option Value) (a0 : Nat) (s : List Value) (h : am_H), am_E P 30 8 [l0, l1] (.ref a0 :: s) h = (am_g1 h a0 7 1).bind (fun v => am_E P 30 11 [l0, l1] (v :: s) h)) ∧
  (∀ (P : Nat × Nat) (l0 : Option Value) (x0 : Int32) (s : List Value) (h : am_H), am_E P 30 11 [l0, some (.int x0)] s h = am_E P 30 12 [l0, some (.int x0)] (.int x0 :: s) h) ∧
  (∀ (P : Nat × Nat) (l0 : Option Value) (l1 : Option Value) (x0 : Int32) (a0 : Nat) (s : List Value) (h : am_H), am_E P 30 12 [l0, l1] (.int x0 :: .ref a0 :: s) h = (am_iald h a0 x0).bind (fun v => am_E P 30 13 [l0, l1] (.int v :: s) h)) ∧
  (∀ (P : Nat × Nat) (l0 : Option Value) (l1 : Option Value) (s : List Value) (h : am_H), am_E P 30 13 [l0, l1] s h = am_E P 30 15 [l0, l1] (.int (-6) :: s) h) ∧
  (∀ (P : Nat × Nat) (l0 : Option Value) (l1 : Option Value) (x0 : Int32) (x1 : Int32) (s : List Value) (h : am_H), am_E P 30 15 [l0, l1] (.int x1 :: .int x0 :: s) h = if x0 = x1 then am_E P 30 22 [l0, l1] s h else am_E P 30 18 [l0, l1] s h) ∧
  (∀ (P : Nat × Nat) (l0 : Option Value) (l1 : Option Value) (s : List Value) (h : am_H), am_E P 30 18 [l0, l1] s h = am_E P 30 19 [l0, l1] (.int 1 :: s) h) ∧
  (∀ (P : Nat × Nat) (l0 : Option Value) (l1 : Option Value) (s : List Value) (h : am_H), am_E P 30 19 [l0, l1] s h = am_E P 30 23 [l0, l1] s h) ∧
  (∀ (P : Nat × Nat) (l0 : Option Value) (l1 : Option Value) (s : List Value) (h : am_H), am_E P 30 22 [l0, l1] s h = am_E P 30 23 [l0, l1] (.int 0 :: s) h) ∧
  (∀ (P : Nat × Nat) (l0 : Option Value) (l1 : Option Value) (x0 : Int32) (h : am_H), am_E P 30 23 [l0, l1] [.int x0] h = if x0 = 0 ∨ x0 = 1 then some (some (.int x0), h) else none) :=
  ⟨fun _ _ _ _ _ => er_go rfl rfl,
  fun _ _ _ _ _ => er_callS rfl rfl rfl,
  fun _ _ _ _ _ _ => er_if_eq rfl,
  fun _ _ _ _ _ => er_go rfl rfl,
  fun _ _ _ _ => er_go rfl rfl,
  fun _ _ _ _ _ _ => er_get1 rfl,
  fun _ _ _ _ _ => er_go rfl rfl,
  fun _ _ _ _ _ _ _ => er_iald rfl,
  fun _ _ _ _ _ => er_go rfl rfl,
  fun _ _ _ _ _ _ _ => er_ic_eq rfl,
  fun _ _ _ _ _ => er_go rfl rfl,
  fun _ _ _ _ _ => er_go rfl rfl,
  fun _ _ _ _ _ => er_go rfl rfl,
  fun _ _ _ _ _ => er_retZ rfl rfl⟩
/-- TwoStepOutputs$Table.take(IIII)Z -/
theorem r31 : (∀ (P : Nat × Nat) (l0 : Option Value) (l2 : Option Value) (l3 : Option Value) (l4 : Option Value) (l5 : Option Value) (x0 : Int32) (s : List Value) (h : am_H), am_E P 31 0 [l0, some (.int x0), l2, l3, l4, l5] s h = am_E P 31 1 [l0, some (.int x0), l2, l3, l4, l5] (.int x0 :: s) h) ∧
  (∀ (P : Nat × Nat) (l0 : Option Value) (l1 : Option Value) (l2 : Option Value) (l3 : Option Value) (l4 : Option Value) (l5 : Option Value) (x0 : Int32) (h : am_H), am_E P 31 1 [l0, l1, l2, l3, l4, l5] [.int x0] h = (am_E P 55 0 [some (.int x0)] [] h).bind (fun q => am_E P 31 4 [l0, l1, l2, l3, l4, l5] (q.1.toList ++ []) q.2)) ∧
  (∀ (P : Nat × Nat) (l0 : Option Value) (l1 : Option Value) (l2 : Option Value) (l3 : Option Value) (l4 : Option Value) (l5 : Option Value) (x0 : Int32) (s : List Value) (h : am_H), am_E P 31 4 [l0, l1, l2, l3, l4, l5] (.int x0 :: s) h = if x0 = 0 then am_E P 31 7 [l0, l1, l2, l3, l4, l5] s h else am_E P 31 9 [l0, l1, l2, l3, l4, l5] s h) ∧
  (∀ (P : Nat × Nat) (l0 : Option Value) (l1 : Option Value) (l2 : Option Value) (l3 : Option Value) (l4 : Option Value) (l5 : Option Value) (s : List Value) (h : am_H), am_E P 31 7 [l0, l1, l2, l3, l4, l5] s h = am_E P 31 8 [l0, l1, l2, l3, l4, l5] (.int 0 :: s) h) ∧
  (∀ (P : Nat × Nat) (l0 : Option Value) (l1 : Option Value) (l2 : Option Value) (l3 : Option Value) (l4 : Option Value) (l5 : Option Value) (x0 : Int32) (h : am_H), am_E P 31 8 [l0, l1, l2, l3, l4, l5] [.int x0] h = if x0 = 0 ∨ x0 = 1 then some (some (.int x0), h) else none) ∧
  (∀ (P : Nat × Nat) (l0 : Option Value) (l1 : Option Value) (l2 : Option Value) (l4 : Option Value) (l5 : Option Value) (x0 : Int32) (s : List Value) (h : am_H), am_E P 31 9 [l0, l1, l2, some (.int x0), l4, l5] s h = am_E P 31 10 [l0, l1, l2, some (.int x0), l4, l5] (.int x0 :: s) h) ∧
  (∀ (P : Nat × Nat) (l1 : Option Value) (l2 : Option Value) (l3 : Option Value) (l4 : Option Value) (l5 : Option Value) (a0 : Nat) (s : List Value) (h : am_H), am_E P 31 10 [some (.ref a0), l1, l2, l3, l4, l5] s h = am_E P 31 11 [some (.ref a0), l1, l2, l3, l4, l5] (.ref a0 :: s) h) ∧
  (∀ (P : Nat × Nat) (l1 : Option Value) (l2 : Option Value) (l3 : Option Value) (l4 : Option Value) (l5 : Option Value) (s : List Value) (h : am_H), am_E P 31 10 [some .null, l1, l2, l3, l4, l5] s h = am_E P 31 11 [some .null, l1, l2, l3, l4, l5] (.null :: s) h) ∧
  (∀ (P : Nat × Nat) (l0 : Option Value) (l1 : Option Value) (l2 : Option Value) (l3 : Option Value) (l4 : Option Value) (l5 : Option Value) (a0 : Nat) (s : List Value) (h : am_H), am_E P 31 11 [l0, l1, l2, l3, l4, l5] (.ref a0 :: s) h = (am_g1 h a0 7 1).bind (fun v => am_E P 31 14 [l0, l1, l2, l3, l4, l5] (v :: s) h)) ∧
  (∀ (P : Nat × Nat) (l0 : Option Value) (l2 : Option Value) (l3 : Option Value) (l4 : Option Value) (l5 : Option Value) (x0 : Int32) (s : List Value) (h : am_H), am_E P 31 14 [l0, some (.int x0), l2, l3, l4, l5] s h = am_E P 31 15 [l0, some (.int x0), l2, l3, l4, l5] (.int x0 :: s) h) ∧
  (∀ (P : Nat × Nat) (l0 : Option Value) (l1 : Option Value) (l2 : Option Value) (l3 : Option Value) (l4 : Option Value) (l5 : Option Value) (x0 : Int32) (a0 : Nat) (s : List Value) (h : am_H), am_E P 31 15 [l0, l1, l2, l3, l4, l5] (.int x0 :: .ref a0 :: s) h = (am_iald h a0 x0).bind (fun v => am_E P 31 16 [l0, l1, l2, l3, l4, l5] (.int v :: s) h)) ∧
  (∀ (P : Nat × Nat) (l0 : Option Value) (l1 : Option Value) (l2 : Option Value) (l3 : Option Value) (l4 : Option Value) (l5 : Option Value) (x0 : Int32) (x1 : Int32) (s : List Value) (h : am_H), am_E P 31 16 [l0, l1, l2, l3, l4, l5] (.int x1 :: .int x0 :: s) h = if x1 < x0 then am_E P 31 40 [l0, l1, l2, l3, l4, l5] s h else am_E P 31 19 [l0, l1, l2, l3, l4, l5] s h) ∧
  (∀ (P : Nat × Nat) (l0 : Option Value) (l1 : Option Value) (l2 : Option Value) (l4 : Option Value) (l5 : Option Value) (x0 : Int32) (s : List Value) (h : am_H), am_E P 31 19 [l0, l1, l2, some (.int x0), l4, l5] s h = am_E P 31 20 [l0, l1, l2, some (.int x0), l4, l5] (.int x0 :: s) h) ∧
  (∀ (P : Nat × Nat) (l1 : Option Value) (l2 : Option Value) (l3 : Option Value) (l4 : Option Value) (l5 : Option Value) (a0 : Nat) (s : List Value) (h : am_H), am_E P 31 20 [some (.ref a0), l1, l2, l3, l4, l5] s h = am_E P 31 21 [some (.ref a0), l1, l2, l3, l4, l5] (.ref a0 :: s) h) ∧
  (∀ (P : Nat × Nat) (l1 : Option Value) (l2 : Option Value) (l3 : Option Value) (l4 : Option Value) (l5 : Option Value) (s : List Value) (h : am_H), am_E P 31 20 [some .null, l1, l2, l3, l4, l5] s h = am_E P 31 21 [some .null, l1, l2, l3, l4, l5] (.null :: s) h) ∧
  (∀ (P : Nat × Nat) (l0 : Option Value) (l1 : Option Value) (l2 : Option Value) (l3 : Option Value) (l4 : Option Value) (l5 : Option Value) (a0 : Nat) (s : List Value) (h : am_H), am_E P 31 21 [l0, l1, l2, l3, l4, l5] (.ref a0 :: s) h = (am_g1 h a0 7 1).bind (fun v => am_E P 31 24 [l0, l1, l2, l3, l4, l5] (v :: s) h)) ∧
  (∀ (P : Nat × Nat) (l0 : Option Value) (l2 : Option Value) (l3 : Option Value) (l4 : Option Value) (l5 : Option Value) (x0 : Int32) (s : List Value) (h : am_H), am_E P 31 24 [l0, some (.int x0), l2, l3, l4, l5] s h = am_E P 31 25 [l0, some (.int x0), l2, l3, l4, l5] (.int x0 :: s) h) ∧
  (∀ (P : Nat × Nat) (l0 : Option Value) (l1 : Option Value) (l2 : Option Value) (l3 : Option Value) (l4 : Option Value) (l5 : Option Value) (x0 : Int32) (a0 : Nat) (s : List Value) (h : am_H), am_E P 31 25 [l0, l1, l2, l3, l4, l5] (.int x0 :: .ref a0 :: s) h = (am_iald h a0 x0).bind (fun v => am_E P 31 26 [l0, l1, l2, l3, l4, l5] (.int v :: s) h)) ∧
  (∀ (P : Nat × Nat) (l0 : Option Value) (l1 : Option Value) (l2 : Option Value) (l3 : Option Value) (l4 : Option Value) (l5 : Option Value) (x0 : Int32) (x1 : Int32) (s : List Value) (h : am_H), am_E P 31 26 [l0, l1, l2, l3, l4, l5] (.int x1 :: .int x0 :: s) h = if x0 = x1 then am_E P 31 29 [l0, l1, l2, l3, l4, l5] s h else am_E P 31 44 [l0, l1, l2, l3, l4, l5] s h) ∧
  (∀ (P : Nat × Nat) (l0 : Option Value) (l1 : Option Value) (l2 : Option Value) (l3 : Option Value) (l5 : Option Value) (x0 : Int32) (s : List Value) (h : am_H), am_E P 31 29 [l0, l1, l2, l3, some (.int x0), l5] s h = am_E P 31 31 [l0, l1, l2, l3, some (.int x0), l5] (.int x0 :: s) h) ∧
  (∀ (P : Nat × Nat) (l1 : Option Value) (l2 : Option Value) (l3 : Option Value) (l4 : Option Value) (l5 : Option Value) (a0 : Nat) (s : List Value) (h : am_H), am_E P 31 31 [some (.ref a0), l1, l2, l3, l4, l5] s h = am_E P 31 32 [some (.ref a0), l1, l2, l3, l4, l5] (.ref a0 :: s) h) ∧
  (∀ (P : Nat × Nat) (l1 : Option Value) (l2 : Option Value) (l3 : Option Value) (l4 : Option Value) (l5 : Option Value) (s : List Value) (h : am_H), am_E P 31 31 [some .null, l1, l2, l3, l4, l5] s h = am_E P 31 32 [some .null, l1, l2, l3, l4, l5] (.null :: s) h) ∧
  (∀ (P : Nat × Nat) (l0 : Option Value) (l1 : Option Value) (l2 : Option Value) (l3 : Option Value) (l4 : Option Value) (l5 : Option Value) (a0 : Nat) (s : List Value) (h : am_H), am_E P 31 32 [l0, l1, l2, l3, l4, l5] (.ref a0 :: s) h = (am_g1 h a0 7 2).bind (fun v => am_E P 31 35 [l0, l1, l2, l3, l4, l5] (v :: s) h)) ∧
  (∀ (P : Nat × Nat) (l0 : Option Value) (l2 : Option Value) (l3 : Option Value) (l4 : Option Value) (l5 : Option Value) (x0 : Int32) (s : List Value) (h : am_H), am_E P 31 35 [l0, some (.int x0), l2, l3, l4, l5] s h = am_E P 31 36 [l0, some (.int x0), l2, l3, l4, l5] (.int x0 :: s) h) ∧
  (∀ (P : Nat × Nat) (l0 : Option Value) (l1 : Option Value) (l2 : Option Value) (l3 : Option Value) (l4 : Option Value) (l5 : Option Value) (x0 : Int32) (a0 : Nat) (s : List Value) (h : am_H), am_E P 31 36 [l0, l1, l2, l3, l4, l5] (.int x0 :: .ref a0 :: s) h = (am_iald h a0 x0).bind (fun v => am_E P 31 37 [l0, l1, l2, l3, l4, l5] (.int v :: s) h)) ∧
  (∀ (P : Nat × Nat) (l0 : Option Value) (l1 : Option Value) (l2 : Option Value) (l3 : Option Value) (l4 : Option Value) (l5 : Option Value) (x0 : Int32) (x1 : Int32) (s : List Value) (h : am_H), am_E P 31 37 [l0, l1, l2, l3, l4, l5] (.int x1 :: .int x0 :: s) h = if x0 ≤ x1 then am_E P 31 44 [l0, l1, l2, l3, l4, l5] s h else am_E P 31 40 [l0, l1, l2, l3, l4, l5] s h) ∧
  (∀ (P : Nat × Nat) (l0 : Option Value) (l1 : Option Value) (l2 : Option Value) (l3 : Option Value) (l4 : Option Value) (l5 : Option Value) (s : List Value) (h : am_H), am_E P 31 40 [l0, l1, l2, l3, l4, l5] s h = am_E P 31 41 [l0, l1, l2, l3, l4, l5] (.int 1 :: s) h) ∧
  (∀ (P : Nat × Nat) (l0 : Option Value) (l1 : Option Value) (l2 : Option Value) (l3 : Option Value) (l4 : Option Value) (l5 : Option Value) (s : List Value) (h : am_H), am_E P 31 41 [l0, l1, l2, l3, l4, l5] s h = am_E P 31 45 [l0, l1, l2, l3, l4, l5] s h) ∧
  (∀ (P : Nat × Nat) (l0 : Option Value) (l1 : Option Value) (l2 : Option Value) (l3 : Option Value) (l4 : Option Value) (l5 : Option Value) (s : List Value) (h : am_H), am_E P 31 44 [l0, l1, l2, l3, l4, l5] s h = am_E P 31 45 [l0, l1, l2, l3, l4, l5] (.int 0 :: s) h) ∧
  (∀ (P : Nat × Nat) (l0 : Option Value) (l1 : Option Value) (l2 : Option Value) (l3 : Option Value) (l4 : Option Value) (l5 : Option Value) (x0 : Int32) (s : List Value) (h : am_H), am_E P 31 45 [l0, l1, l2, l3, l4, l5] (.int x0 :: s) h = am_E P 31 47 [l0, l1, l2, l3, l4, some (.int x0)] s h) ∧
  (∀ (P : Nat × Nat) (l0 : Option Value) (l1 : Option Value) (l2 : Option Value) (l3 : Option Value) (l4 : Option Value) (x0 : Int32) (s : List Value) (h : am_H), am_E P 31 47 [l0, l1, l2, l3, l4, some (.int x0)] s h = am_E P 31 49 [l0, l1, l2, l3, l4, some (.int x0)] (.int x0 :: s) h) ∧
  (∀ (P : Nat × Nat) (l0 : Option Value) (l1 : Option Value) (l2 : Option Value) (l3 : Option Value) (l4 : Option Value) (l5 : Option Value) (x0 : Int32) (s : List Value) (h : am_H), am_E P 31 49 [l0, l1, l2, l3, l4, l5] (.int x0 :: s) h = if x0 = 0 then am_E P 31 52 [l0, l1, l2, l3, l4, l5] s h else am_E P 31 54 [l0, l1, l2, l3, l4, l5] s h) ∧
  (∀ (P : Nat × Nat) (l0 : Option Value) (l1 : Option Value) (l2 : Option Value) (l3 : Option Value) (l4 : Option Value) (l5 : Option Value) (s : List Value) (h : am_H), am_E P 31 52 [l0, l1, l2, l3, l4, l5] s h = am_E P 31 53 [l0, l1, l2, l3, l4, l5] (.int 0 :: s) h) ∧
  (∀ (P : Nat × Nat) (l0 : Option Value) (l1 : Option Value) (l2 : Option Value) (l3 : Option Value) (l4 : Option Value) (l5 : Option Value) (x0 : Int32) (h : am_H), am_E P 31 53 [l0, l1, l2, l3, l4, l5] [.int x0] h = if x0 = 0 ∨ x0 = 1 then some (some (.int x0), h) else none) ∧
  (∀ (P : Nat × Nat) (l1 : Option Value) (l2 : Option Value) (l3 : Option Value) (l4 : Option Value) (l5 : Option Value) (a0 : Nat) (s : List Value) (h : am_H), am_E P 31 54 [some (.ref a0), l1, l2, l3, l4, l5] s h = am_E P 31 55 [some (.ref a0), l1, l2, l3, l4, l5] (.ref a0 :: s) h) ∧
  (∀ (P : Nat × Nat) (l1 : Option Value) (l2 : Option Value) (l3 : Option Value) (l4 : Option Value) (l5 : Option Value) (s : List Value) (h : am_H), am_E P 31 54 [some .null, l1, l2, l3, l4, l5] s h = am_E P 31 55 [some .null, l1, l2, l3, l4, l5] (.null :: s) h) ∧
  (∀ (P : Nat × Nat) (l0 : Option Value) (l2 : Option Value) (l3 : Option Value) (l4 : Option Value) (l5 : Option Value) (x0 : Int32) (s : List Value) (h : am_H), am_E P 31 55 [l0, some (.int x0), l2, l3, l4, l5] s h = am_E P 31 56 [l0, some (.int x0), l2, l3, l4, l5] (.int x0 :: s) h) ∧
  (∀ (P : Nat × Nat) (l0 : Option Value) (l1 : Option Value) (l2 : Option Value) (l3 : Option Value) (l4 : Option Value) (l5 : Option Value) (a0 : Nat) (x0 : Int32) (h : am_H), am_E P 31 56 [l0, l1, l2, l3, l4, l5] [.int x0, .ref a0] h = if am_cls h a0 = some 7 then (am_E P 30 0 [some (.ref a0), some (.int x0)] [] h).bind (fun q => am_E P 31 59 [l0, l1, l2, l3, l4, l5] (q.1.toList ++ []) q.2) else none) ∧
  (∀ (P : Nat × Nat) (l0 : Option Value) (l1 : Option Value) (l2 : Option Value) (l3 : Option Value) (l4 : Option Value) (l5 : Option Value) (x0 : Int32) (s : List Value) (h : am_H), am_E P 31 59 [l0, l1, l2, l3, l4, l5] (.int x0 :: s) h = if x0 = 0 then am_E P 31 62 [l0, l1, l2, l3, l4, l5] s h else am_E P 31 72 [l0, l1, l2, l3, l4, l5] s h) ∧
  (∀ (P : Nat × Nat) (l1 : Option Value) (l2 : Option Value) (l3 : Option Value) (l4 : Option Value) (l5 : Option Value) (a0 : Nat) (s : List Value) (h : am_H), am_E P 31 62 [some (.ref a0), l1, l2, l3, l4, l5] s h = am_E P 31 63 [some (.ref a0), l1, l2, l3, l4, l5] (.ref a0 :: s) h) ∧
  (∀ (P : Nat × Nat) (l1 : Option Value) (l2 : Option Value) (l3 : Option Value) (l4 : Option Value) (l5 : Option Value) (s : List Value) (h : am_H), am_E P 31 62 [some .null, l1, l2, l3, l4, l5] s h = am_E P 31 63 [some .null, l1, l2, l3, l4, l5] (.null :: s) h) ∧
  (∀ (P : Nat × Nat) (l0 : Option Value) (l1 : Option Value) (l2 : Option Value) (l3 : Option Value) (l4 : Option Value) (l5 : Option Value) (a0 : Nat) (s : List Value) (h : am_H), am_E P 31 63 [l0, l1, l2, l3, l4, l5] (.ref a0 :: s) h = am_E P 31 64 [l0, l1, l2, l3, l4, l5] (.ref a0 :: .ref a0 :: s) h) ∧
  (∀ (P : Nat × Nat) (l0 : Option Value) (l1 : Option Value) (l2 : Option Value) (l3 : Option Value) (l4 : Option Value) (l5 : Option Value) (a0 : Nat) (s : List Value) (h : am_H), am_E P 31 64 [l0, l1, l2, l3, l4, l5] (.ref a0 :: s) h = (am_g1 h a0 7 3).bind (fun v => am_E P 31 67 [l0, l1, l2, l3, l4, l5] (v :: s) h)) ∧
  (∀ (P : Nat × Nat) (l0 : Option Value) (l1 : Option Value) (l2 : Option Value) (l3 : Option Value) (l4 : Option Value) (l5 : Option Value) (s : List Value) (h : am_H), am_E P 31 67 [l0, l1, l2, l3, l4, l5] s h = am_E P 31 68 [l0, l1, l2, l3, l4, l5] (.int 1 :: s) h) ∧
  (∀ (P : Nat × Nat) (l0 : Option Value) (l1 : Option Value) (l2 : Option Value) (l3 : Option Value) (l4 : Option Value) (l5 : Option Value) (x0 : Int32) (x1 : Int32) (s : List Value) (h : am_H), am_E P 31 68 [l0, l1, l2, l3, l4, l5] (.int x1 :: .int x0 :: s) h = am_E P 31 69 [l0, l1, l2, l3, l4, l5] (.int (x0 + x1) :: s) h) ∧
  (∀ (P : Nat × Nat) (l0 : Option Value) (l1 : Option Value) (l2 : Option Value) (l3 : Option Value) (l4 : Option Value) (l5 : Option Value) (a0 : Nat) (x0 : Int32) (s : List Value) (h : am_H), am_E P 31 69 [l0, l1, l2, l3, l4, l5] (.int x0 :: .ref a0 :: s) h = (am_p1 h a0 7 3 (.int x0)).bind (fun h => am_E P 31 72 [l0, l1, l2, l3, l4, l5] s h)) ∧
  (∀ (P : Nat × Nat) (l1 : Option Value) (l2 : Option Value) (l3 : Option Value) (l4 : Option Value) (l5 : Option Value) (a0 : Nat) (s : List Value) (h : am_H), am_E P 31 72 [some (.ref a0), l1, l2, l3, l4, l5] s h = am_E P 31 73 [some (.ref a0), l1, l2, l3, l4, l5] (.ref a0 :: s) h) ∧
  (∀ (P : Nat × Nat) (l1 : Option Value) (l2 : Option Value) (l3 : Option Value) (l4 : Option Value) (l5 : Option Value) (s : List Value) (h : am_H), am_E P 31 72 [some .null, l1, l2, l3, l4, l5] s h = am_E P 31 73 [some .null, l1, l2, l3, l4, l5] (.null :: s) h) ∧
  (∀ (P : Nat × Nat) (l0 : Option Value) (l1 : Option Value) (l2 : Option Value) (l3 : Option Value) (l4 : Option Value) (l5 : Option Value) (a0 : Nat) (s : List Value) (h : am_H), am_E P 31 73 [l0, l1, l2, l3, l4, l5] (.ref a0 :: s) h = (am_g1 h a0 7 0).bind (fun v => am_E P 31 76 [l0, l1, l2, l3, l4, l5] (v :: s) h)) ∧
  (∀ (P : Nat × Nat) (l0 : Option Value) (l2 : Option Value) (l3 : Option Value) (l4 : Option Value) (l5 : Option Value) (x0 : Int32) (s : List Value) (h : am_H), am_E P 31 76 [l0, some (.int x0), l2, l3, l4, l5] s h = am_E P 31 77 [l0, some (.int x0), l2, l3, l4, l5] (.int x0 :: s) h) ∧
  (∀ (P : Nat × Nat) (l0 : Option Value) (l1 : Option Value) (l3 : Option Value) (l4 : Option Value) (l5 : Option Value) (x0 : Int32) (s : List Value) (h : am_H), am_E P 31 77 [l0, l1, some (.int x0), l3, l4, l5] s h = am_E P 31 78 [l0, l1, some (.int x0), l3, l4, l5] (.int x0 :: s) h) ∧
  (∀ (P : Nat × Nat) (l0 : Option Value) (l1 : Option Value) (l2 : Option Value) (l3 : Option Value) (l4 : Option Value) (l5 : Option Value) (x0 : Int32) (x1 : Int32) (a0 : Nat) (s : List Value) (h : am_H), am_E P 31 78 [l0, l1, l2, l3, l4, l5] (.int x1 :: .int x0 :: .ref a0 :: s) h = (am_iast h a0 x0 x1).bind (fun h => am_E P 31 79 [l0, l1, l2, l3, l4, l5] s h)) ∧
  (∀ (P : Nat × Nat) (l1 : Option Value) (l2 : Option Value) (l3 : Option Value) (l4 : Option Value) (l5 : Option Value) (a0 : Nat) (s : List Value) (h : am_H), am_E P 31 79 [some (.ref a0), l1, l2, l3, l4, l5] s h = am_E P 31 80 [some (.ref a0), l1, l2, l3, l4, l5] (.ref a0 :: s) h) ∧
  (∀ (P : Nat × Nat) (l1 : Option Value) (l2 : Option Value) (l3 : Option Value) (l4 : Option Value) (l5 : Option Value) (s : List Value) (h : am_H), am_E P 31 79 [some .null, l1, l2, l3, l4, l5] s h = am_E P 31 80 [some .null, l1, l2, l3, l4, l5] (.null :: s) h) ∧
  (∀ (P : Nat × Nat) (l0 : Option Value) (l1 : Option Value) (l2 : Option Value) (l3 : Option Value) (l4 : Option Value) (l5 : Option Value) (a0 : Nat) (s : List Value) (h : am_H), am_E P 31 80 [l0, l1, l2, l3, l4, l5] (.ref a0 :: s) h = (am_g1 h a0 7 1).bind (fun v => am_E P 31 83 [l0, l1, l2, l3, l4, l5] (v :: s) h)) ∧
  (∀ (P : Nat × Nat) (l0 : Option Value) (l2 : Option Value) (l3 : Option Value) (l4 : Option Value) (l5 : Option Value) (x0 : Int32) (s : List Value) (h : am_H), am_E P 31 83 [l0, some (.int x0), l2, l3, l4, l5] s h = am_E P 31 84 [l0, some (.int x0), l2, l3, l4, l5] (.int x0 :: s) h) ∧
  (∀ (P : Nat × Nat) (l0 : Option Value) (l1 : Option Value) (l2 : Option Value) (l4 : Option Value) (l5 : Option Value) (x0 : Int32) (s : List Value) (h : am_H), am_E P 31 84 [l0, l1, l2, some (.int x0), l4, l5] s h = am_E P 31 85 [l0, l1, l2, some (.int x0), l4, l5] (.int x0 :: s) h) ∧
  (∀ (P : Nat × Nat) (l0 : Option Value) (l1 : Option Value) (l2 : Option Value) (l3 : Option Value) (l4 : Option Value) (l5 : Option Value) (x0 : Int32) (x1 : Int32) (a0 : Nat) (s : List Value) (h : am_H), am_E P 31 85 [l0, l1, l2, l3, l4, l5] (.int x1 :: .int x0 :: .ref a0 :: s) h = (am_iast h a0 x0 x1).bind (fun h => am_E P 31 86 [l0, l1, l2, l3, l4, l5] s h)) ∧
  (∀ (P : Nat × Nat) (l1 : Option Value) (l2 : Option Value) (l3 : Option Value) (l4 : Option Value) (l5 : Option Value) (a0 : Nat) (s : List Value) (h : am_H), am_E P 31 86 [some (.ref a0), l1, l2, l3, l4, l5] s h = am_E P 31 87 [some (.ref a0), l1, l2, l3, l4, l5] (.ref a0 :: s) h) ∧
  (∀ (P : Nat × Nat) (l1 : Option Value) (l2 : Option Value) (l3 : Option Value) (l4 : Option Value) (l5 : Option Value) (s : List Value) (h : am_H), am_E P 31 86 [some .null, l1, l2, l3, l4, l5] s h = am_E P 31 87 [some .null, l1, l2, l3, l4, l5] (.null :: s) h) ∧
  (∀ (P : Nat × Nat) (l0 : Option Value) (l1 : Option Value) (l2 : Option Value) (l3 : Option Value) (l4 : Option Value) (l5 : Option Value) (a0 : Nat) (s : List Value) (h : am_H), am_E P 31 87 [l0, l1, l2, l3, l4, l5] (.ref a0 :: s) h = (am_g1 h a0 7 2).bind (fun v => am_E P 31 90 [l0, l1, l2, l3, l4, l5] (v :: s) h)) ∧
  (∀ (P : Nat × Nat) (l0 : Option Value) (l2 : Option Value) (l3 : Option Value) (l4 : Option Value) (l5 : Option Value) (x0 : Int32) (s : List Value) (h : am_H), am_E P 31 90 [l0, some (.int x0), l2, l3, l4, l5] s h = am_E P 31 91 [l0, some (.int x0), l2, l3, l4, l5] (.int x0 :: s) h) ∧
  (∀ (P : Nat × Nat) (l0 : Option Value) (l1 : Option Value) (l2 : Option Value) (l3 : Option Value) (l5 : Option Value) (x0 : Int32) (s : List Value) (h : am_H), am_E P 31 91 [l0, l1, l2, l3, some (.int x0), l5] s h = am_E P 31 93 [l0, l1, l2, l3, some (.int x0), l5] (.int x0 :: s) h) ∧
  (∀ (P : Nat × Nat) (l0 : Option Value) (l1 : Option Value) (l2 : Option Value) (l3 : Option Value) (l4 : Option Value) (l5 : Option Value) (x0 : Int32) (x1 : Int32) (a0 : Nat) (s : List Value) (h : am_H), am_E P 31 93 [l0, l1, l2, l3, l4, l5] (.int x1 :: .int x0 :: .ref a0 :: s) h = (am_iast h a0 x0 x1).bind (fun h => am_E P 31 94 [l0, l1, l2, l3, l4, l5] s h)) ∧
  (∀ (P : Nat × Nat) (l0 : Option Value) (l1 : Option Value) (l2 : Option Value) (l3 : Option Value) (l4 : Option Value) (l5 : Option Value) (s : List Value) (h : am_H), am_E P 31 94 [l0, l1, l2, l3, l4, l5] s h = am_E P 31 95 [l0, l1, l2, l3, l4, l5] (.int 1 :: s) h) ∧
  (∀ (P : Nat × Nat) (l0 : Option Value) (l1 : Option Value) (l2 : Option Value) (l3 : Option Value) (l4 : Option Value) (l5 : Option Value) (x0 : Int32) (h : am_H), am_E P 31 95 [l0, l1, l2, l3, l4, l5] [.int x0] h = if x0 = 0 ∨ x0 = 1 then some (some (.int x0), h) else none) :=
  ⟨fun _ _ _ _ _ _ _ _ _ => er_go rfl rfl,
  fun _ _ _ _ _ _ _ _ _ => er_callS rfl rfl rfl,
  fun _ _ _ _ _ _ _ _ _ _ => er_if_ne rfl,
  fun _ _ _ _ _ _ _ _ _ => er_go rfl rfl,
  fun _ _ _ _ _ _ _ _ _ => er_retZ rfl rfl,
  fun _ _ _ _ _ _ _ _ _ => er_go rfl rfl,
  fun _ _ _ _ _ _ _ _ _ => er_go rfl rfl,
  fun _ _ _ _ _ _ _ _ => er_go rfl rfl,
  fun _ _ _ _ _ _ _ _ _ _ => er_get1 rfl,
  fun _ _ _ _ _ _ _ _ _ => er_go rfl rfl,
  fun _ _ _ _ _ _ _ _ _ _ _ => er_iald rfl,
  fun _ _ _ _ _ _ _ _ _ _ _ => er_ic_gt rfl,
  fun _ _ _ _ _ _ _ _ _ => er_go rfl rfl,
  fun _ _ _ _ _ _ _ _ _ => er_go rfl rfl,
  fun _ _ _ _ _ _ _ _ => er_go rfl rfl,
  fun _ _ _ _ _ _ _ _ _ _ => er_get1 rfl,
  fun _ _ _ _ _ _ _ _ _ => er_go rfl rfl,
  fun _ _ _ _ _ _ _ _ _ _ _ => er_iald rfl,
  fun _ _ _ _ _ _ _ _ _ _ _ => er_ic_ne rfl,
  fun _ _ _ _ _ _ _ _ _ => er_go rfl rfl,
  fun _ _ _ _ _ _ _ _ _ => er_go rfl rfl,
  fun _ _ _ _ _ _ _ _ => er_go rfl rfl,
  fun _ _ _ _ _ _ _ _ _ _ => er_get1 rfl,
  fun _ _ _ _ _ _ _ _ _ => er_go rfl rfl,
  fun _ _ _ _ _ _ _ _ _ _ _ => er_iald rfl,
  fun _ _ _ _ _ _ _ _ _ _ _ => er_ic_le rfl,
  fun _ _ _ _ _ _ _ _ _ => er_go rfl rfl,
  fun _ _ _ _ _ _ _ _ _ => er_go rfl rfl,
  fun _ _ _ _ _ _ _ _ _ => er_go rfl rfl,
  fun _ _ _ _ _ _ _ _ _ _ => er_go rfl rfl,
  fun _ _ _ _ _ _ _ _ _ => er_go rfl rfl,
  fun _ _ _ _ _ _ _ _ _ _ => er_if_ne rfl,
  fun _ _ _ _ _ _ _ _ _ => er_go rfl rfl,
  fun _ _ _ _ _ _ _ _ _ => er_retZ rfl rfl,
  fun _ _ _ _ _ _ _ _ _ => er_go rfl rfl,
  fun _ _ _ _ _ _ _ _ => er_go rfl rfl,
  fun _ _ _ _ _ _ _ _ _ => er_go rfl rfl,
  fun _ _ _ _ _ _ _ _ _ _ => er_callV rfl rfl rfl rfl,
  fun _ _ _ _ _ _ _ _ _ _ => er_if_ne rfl,
  fun _ _ _ _ _ _ _ _ _ => er_go rfl rfl,
  fun _ _ _ _ _ _ _ _ => er_go rfl rfl,
  fun _ _ _ _ _ _ _ _ _ _ => er_go rfl rfl,
  fun _ _ _ _ _ _ _ _ _ _ => er_get1 rfl,
  fun _ _ _ _ _ _ _ _ _ => er_go rfl rfl,
  fun _ _ _ _ _ _ _ _ _ _ _ => er_go rfl rfl,
  fun _ _ _ _ _ _ _ _ _ _ _ => er_put1 rfl rfl,
  fun _ _ _ _ _ _ _ _ _ => er_go rfl rfl,
  fun _ _ _ _ _ _ _ _ => er_go rfl rfl,
  fun _ _ _ _ _ _ _ _ _ _ => er_get1 rfl,
  fun _ _ _ _ _ _ _ _ _ => er_go rfl rfl,
  fun _ _ _ _ _ _ _ _ _ => er_go rfl rfl,
  fun _ _ _ _ _ _ _ _ _ _ _ _ => er_iast rfl,
  fun _ _ _ _ _ _ _ _ _ => er_go rfl rfl,
  fun _ _ _ _ _ _ _ _ => er_go rfl rfl,
  fun _ _ _ _ _ _ _ _ _ _ => er_get1 rfl,
  fun _ _ _ _ _ _ _ _ _ => er_go rfl rfl,
  fun _ _ _ _ _ _ _ _ _ => er_go rfl rfl,
  fun _ _ _ _ _ _ _ _ _ _ _ _ => er_iast rfl,
  fun _ _ _ _ _ _ _ _ _ => er_go rfl rfl,
  fun _ _ _ _ _ _ _ _ => er_go rfl rfl,
  fun _ _ _ _ _ _ _ _ _ _ => er_get1 rfl,
  fun _ _ _ _ _ _ _ _ _ => er_go rfl rfl,
  fun _ _ _ _ _ _ _ _ _ => er_go rfl rfl,
  fun _ _ _ _ _ _ _ _ _ _ _ _ => er_iast rfl,
  fun _ _ _ _ _ _ _ _ _ => er_go rfl rfl,
  fun _ _ _ _ _ _ _ _ _ => er_retZ rfl rfl⟩
