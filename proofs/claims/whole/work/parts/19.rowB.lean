/-! Printed by a program of ours (wip/whole/gen/emit_rows.py): what am_E does at each instruction. -/
/-- TwoStepOutputs.<init>()V -/
theorem r32 : (∀ (P : Nat × Nat) (a0 : Nat) (s : List Value) (h : am_H), am_E P 32 0 [some (.ref a0)] s h = am_E P 32 1 [some (.ref a0)] (.ref a0 :: s) h) ∧
  (∀ (P : Nat × Nat) (s : List Value) (h : am_H), am_E P 32 0 [some .null] s h = am_E P 32 1 [some .null] (.null :: s) h) ∧
  (∀ (P : Nat × Nat) (l0 : Option Value) (a0 : Nat) (h : am_H), am_E P 32 1 [l0] [.ref a0] h = am_E P 32 4 [l0] [] h) ∧
  (∀ (P : Nat × Nat) (a0 : Nat) (s : List Value) (h : am_H), am_E P 32 4 [some (.ref a0)] s h = am_E P 32 5 [some (.ref a0)] (.ref a0 :: s) h) ∧
  (∀ (P : Nat × Nat) (s : List Value) (h : am_H), am_E P 32 4 [some .null] s h = am_E P 32 5 [some .null] (.null :: s) h) ∧
  (∀ (P : Nat × Nat) (l0 : Option Value) (s : List Value) (h : am_H), am_E P 32 5 [l0] s h = am_E P 32 8 [l0] (.ref h.1 :: s) (ah_new h 3 (ac_O 0 [.int 0, .null, .int 0]))) ∧
  (∀ (P : Nat × Nat) (l0 : Option Value) (a0 : Nat) (s : List Value) (h : am_H), am_E P 32 8 [l0] (.ref a0 :: s) h = am_E P 32 9 [l0] (.ref a0 :: .ref a0 :: s) h) ∧
  (∀ (P : Nat × Nat) (l0 : Option Value) (a0 : Nat) (v0 : Value) (v1 : Value) (h : am_H), am_E P 32 9 [l0] [.ref a0, v0, v1] h = (am_E P 115 0 [some (.ref a0)] [] h).bind (fun q => am_E P 32 12 [l0] (q.1.toList ++ [v0, v1]) q.2)) ∧
  (∀ (P : Nat × Nat) (l0 : Option Value) (a0 : Nat) (a1 : Nat) (s : List Value) (h : am_H), am_E P 32 12 [l0] (.ref a1 :: .ref a0 :: s) h = (am_p1 h a0 8 0 (.ref a1)).bind (fun h => am_E P 32 15 [l0] s h)) ∧
  (∀ (P : Nat × Nat) (a0 : Nat) (s : List Value) (h : am_H), am_E P 32 15 [some (.ref a0)] s h = am_E P 32 16 [some (.ref a0)] (.ref a0 :: s) h) ∧
  (∀ (P : Nat × Nat) (s : List Value) (h : am_H), am_E P 32 15 [some .null] s h = am_E P 32 16 [some .null] (.null :: s) h) ∧
  (∀ (P : Nat × Nat) (l0 : Option Value) (s : List Value) (h : am_H), am_E P 32 16 [l0] s h = am_E P 32 19 [l0] (.ref h.1 :: s) (ah_new h 3 (ac_O 0 [.int 0, .null, .int 0]))) ∧
  (∀ (P : Nat × Nat) (l0 : Option Value) (a0 : Nat) (s : List Value) (h : am_H), am_E P 32 19 [l0] (.ref a0 :: s) h = am_E P 32 20 [l0] (.ref a0 :: .ref a0 :: s) h) ∧
  (∀ (P : Nat × Nat) (l0 : Option Value) (a0 : Nat) (v0 : Value) (v1 : Value) (h : am_H), am_E P 32 20 [l0] [.ref a0, v0, v1] h = (am_E P 115 0 [some (.ref a0)] [] h).bind (fun q => am_E P 32 23 [l0] (q.1.toList ++ [v0, v1]) q.2)) ∧
  (∀ (P : Nat × Nat) (l0 : Option Value) (a0 : Nat) (a1 : Nat) (s : List Value) (h : am_H), am_E P 32 23 [l0] (.ref a1 :: .ref a0 :: s) h = (am_p1 h a0 8 1 (.ref a1)).bind (fun h => am_E P 32 26 [l0] s h)) ∧
  (∀ (P : Nat × Nat) (a0 : Nat) (s : List Value) (h : am_H), am_E P 32 26 [some (.ref a0)] s h = am_E P 32 27 [some (.ref a0)] (.ref a0 :: s) h) ∧
  (∀ (P : Nat × Nat) (s : List Value) (h : am_H), am_E P 32 26 [some .null] s h = am_E P 32 27 [some .null] (.null :: s) h) ∧
  (∀ (P : Nat × Nat) (l0 : Option Value) (s : List Value) (h : am_H), am_E P 32 27 [l0] s h = am_E P 32 30 [l0] (.ref h.1 :: s) (ah_new h 3 (ac_O 2 [.int 0, .null, .int 0]))) ∧
  (∀ (P : Nat × Nat) (l0 : Option Value) (a0 : Nat) (s : List Value) (h : am_H), am_E P 32 30 [l0] (.ref a0 :: s) h = am_E P 32 31 [l0] (.ref a0 :: .ref a0 :: s) h) ∧
  (∀ (P : Nat × Nat) (l0 : Option Value) (a0 : Nat) (v0 : Value) (v1 : Value) (h : am_H), am_E P 32 31 [l0] [.ref a0, v0, v1] h = (am_E P 5 0 [some (.ref a0)] [] h).bind (fun q => am_E P 32 34 [l0] (q.1.toList ++ [v0, v1]) q.2)) ∧
  (∀ (P : Nat × Nat) (l0 : Option Value) (a0 : Nat) (a1 : Nat) (s : List Value) (h : am_H), am_E P 32 34 [l0] (.ref a1 :: .ref a0 :: s) h = (am_p1 h a0 8 2 (.ref a1)).bind (fun h => am_E P 32 37 [l0] s h)) ∧
  (∀ (P : Nat × Nat) (a0 : Nat) (s : List Value) (h : am_H), am_E P 32 37 [some (.ref a0)] s h = am_E P 32 38 [some (.ref a0)] (.ref a0 :: s) h) ∧
  (∀ (P : Nat × Nat) (s : List Value) (h : am_H), am_E P 32 37 [some .null] s h = am_E P 32 38 [some .null] (.null :: s) h) ∧
  (∀ (P : Nat × Nat) (l0 : Option Value) (s : List Value) (h : am_H), am_E P 32 38 [l0] s h = am_E P 32 41 [l0] (.ref h.1 :: s) (ah_new h 3 (ac_O 1 [.null, .int 0, .int 0]))) ∧
  (∀ (P : Nat × Nat) (l0 : Option Value) (a0 : Nat) (s : List Value) (h : am_H), am_E P 32 41 [l0] (.ref a0 :: s) h = am_E P 32 42 [l0] (.ref a0 :: .ref a0 :: s) h) ∧
  (∀ (P : Nat × Nat) (l0 : Option Value) (a0 : Nat) (v0 : Value) (v1 : Value) (h : am_H), am_E P 32 42 [l0] [.ref a0, v0, v1] h = (am_E P 0 0 [some (.ref a0)] [] h).bind (fun q => am_E P 32 45 [l0] (q.1.toList ++ [v0, v1]) q.2)) ∧
  (∀ (P : Nat × Nat) (l0 : Option Value) (a0 : Nat) (a1 : Nat) (s : List Value) (h : am_H), am_E P 32 45 [l0] (.ref a1 :: .ref a0 :: s) h = (am_p1 h a0 8 3 (.ref a1)).bind (fun h => am_E P 32 48 [l0] s h)) ∧
  (∀ (P : Nat × Nat) (a0 : Nat) (s : List Value) (h : am_H), am_E P 32 48 [some (.ref a0)] s h = am_E P 32 49 [some (.ref a0)] (.ref a0 :: s) h) ∧
  (∀ (P : Nat × Nat) (s : List Value) (h : am_H), am_E P 32 48 [some .null] s h = am_E P 32 49 [some .null] (.null :: s) h) ∧
  (∀ (P : Nat × Nat) (l0 : Option Value) (s : List Value) (h : am_H), am_E P 32 49 [l0] s h = am_E P 32 51 [l0] (.int (-6) :: s) h) ∧
  (∀ (P : Nat × Nat) (l0 : Option Value) (a0 : Nat) (x0 : Int32) (s : List Value) (h : am_H), am_E P 32 51 [l0] (.int x0 :: .ref a0 :: s) h = (am_p1 h a0 8 4 (.int x0)).bind (fun h => am_E P 32 54 [l0] s h)) ∧
  (∀ (P : Nat × Nat) (a0 : Nat) (s : List Value) (h : am_H), am_E P 32 54 [some (.ref a0)] s h = am_E P 32 55 [some (.ref a0)] (.ref a0 :: s) h) ∧
  (∀ (P : Nat × Nat) (s : List Value) (h : am_H), am_E P 32 54 [some .null] s h = am_E P 32 55 [some .null] (.null :: s) h) ∧
  (∀ (P : Nat × Nat) (l0 : Option Value) (s : List Value) (h : am_H), am_E P 32 55 [l0] s h = am_E P 32 56 [l0] (.int 0 :: s) h) ∧
  (∀ (P : Nat × Nat) (l0 : Option Value) (a0 : Nat) (x0 : Int32) (s : List Value) (h : am_H), am_E P 32 56 [l0] (.int x0 :: .ref a0 :: s) h = if x0 = 0 ∨ x0 = 1 then (am_p1 h a0 8 5 (.int x0)).bind (fun h => am_E P 32 59 [l0] s h) else none) ∧
  (∀ (P : Nat × Nat) (a0 : Nat) (s : List Value) (h : am_H), am_E P 32 59 [some (.ref a0)] s h = am_E P 32 60 [some (.ref a0)] (.ref a0 :: s) h) ∧
  (∀ (P : Nat × Nat) (s : List Value) (h : am_H), am_E P 32 59 [some .null] s h = am_E P 32 60 [some .null] (.null :: s) h) ∧
  (∀ (P : Nat × Nat) (l0 : Option Value) (s : List Value) (h : am_H), am_E P 32 60 [l0] s h = am_E P 32 61 [l0] (.int 0 :: s) h) ∧
  (∀ (P : Nat × Nat) (l0 : Option Value) (a0 : Nat) (x0 : Int32) (s : List Value) (h : am_H), am_E P 32 61 [l0] (.int x0 :: .ref a0 :: s) h = if x0 = 0 ∨ x0 = 1 then (am_p1 h a0 8 6 (.int x0)).bind (fun h => am_E P 32 64 [l0] s h) else none) ∧
  (∀ (P : Nat × Nat) (a0 : Nat) (s : List Value) (h : am_H), am_E P 32 64 [some (.ref a0)] s h = am_E P 32 65 [some (.ref a0)] (.ref a0 :: s) h) ∧
  (∀ (P : Nat × Nat) (s : List Value) (h : am_H), am_E P 32 64 [some .null] s h = am_E P 32 65 [some .null] (.null :: s) h) ∧
  (∀ (P : Nat × Nat) (l0 : Option Value) (s : List Value) (h : am_H), am_E P 32 65 [l0] s h = am_E P 32 66 [l0] (.int 0 :: s) h) ∧
  (∀ (P : Nat × Nat) (l0 : Option Value) (a0 : Nat) (x0 : Int32) (s : List Value) (h : am_H), am_E P 32 66 [l0] (.int x0 :: .ref a0 :: s) h = (am_p1 h a0 8 7 (.int x0)).bind (fun h => am_E P 32 69 [l0] s h)) ∧
  (∀ (P : Nat × Nat) (a0 : Nat) (s : List Value) (h : am_H), am_E P 32 69 [some (.ref a0)] s h = am_E P 32 70 [some (.ref a0)] (.ref a0 :: s) h) ∧
  (∀ (P : Nat × Nat) (s : List Value) (h : am_H), am_E P 32 69 [some .null] s h = am_E P 32 70 [some .null] (.null :: s) h) ∧
  (∀ (P : Nat × Nat) (l0 : Option Value) (s : List Value) (h : am_H), am_E P 32 70 [l0] s h = am_E P 32 71 [l0] (.int 0 :: s) h) ∧
  (∀ (P : Nat × Nat) (l0 : Option Value) (a0 : Nat) (x0 : Int32) (s : List Value) (h : am_H), am_E P 32 71 [l0] (.int x0 :: .ref a0 :: s) h = (am_p1 h a0 8 8 (.int x0)).bind (fun h => am_E P 32 74 [l0] s h)) ∧
  (∀ (P : Nat × Nat) (l0 : Option Value) (h : am_H), am_E P 32 74 [l0] [] h = some (none, h)) :=
  ⟨fun _ _ _ _ => er_go rfl rfl,
  fun _ _ _ => er_go rfl rfl,
  fun _ _ _ _ => er_go rfl rfl,
  fun _ _ _ _ => er_go rfl rfl,
  fun _ _ _ => er_go rfl rfl,
  fun _ _ _ _ => er_go rfl rfl,
  fun _ _ _ _ _ => er_go rfl rfl,
  fun _ _ _ _ _ _ => er_callS rfl rfl rfl,
  fun _ _ _ _ _ _ => er_put1 rfl rfl,
  fun _ _ _ _ => er_go rfl rfl,
  fun _ _ _ => er_go rfl rfl,
  fun _ _ _ _ => er_go rfl rfl,
  fun _ _ _ _ _ => er_go rfl rfl,
  fun _ _ _ _ _ _ => er_callS rfl rfl rfl,
  fun _ _ _ _ _ _ => er_put1 rfl rfl,
  fun _ _ _ _ => er_go rfl rfl,
  fun _ _ _ => er_go rfl rfl,
  fun _ _ _ _ => er_go rfl rfl,
  fun _ _ _ _ _ => er_go rfl rfl,
  fun _ _ _ _ _ _ => er_callS rfl rfl rfl,
  fun _ _ _ _ _ _ => er_put1 rfl rfl,
  fun _ _ _ _ => er_go rfl rfl,
  fun _ _ _ => er_go rfl rfl,
  fun _ _ _ _ => er_go rfl rfl,
  fun _ _ _ _ _ => er_go rfl rfl,
  fun _ _ _ _ _ _ => er_callS rfl rfl rfl,
  fun _ _ _ _ _ _ => er_put1 rfl rfl,
  fun _ _ _ _ => er_go rfl rfl,
  fun _ _ _ => er_go rfl rfl,
  fun _ _ _ _ => er_go rfl rfl,
  fun _ _ _ _ _ _ => er_put1 rfl rfl,
  fun _ _ _ _ => er_go rfl rfl,
  fun _ _ _ => er_go rfl rfl,
  fun _ _ _ _ => er_go rfl rfl,
  fun _ _ _ _ _ _ => er_putZ rfl rfl,
  fun _ _ _ _ => er_go rfl rfl,
  fun _ _ _ => er_go rfl rfl,
  fun _ _ _ _ => er_go rfl rfl,
  fun _ _ _ _ _ _ => er_putZ rfl rfl,
  fun _ _ _ _ => er_go rfl rfl,
  fun _ _ _ => er_go rfl rfl,
  fun _ _ _ _ => er_go rfl rfl,
  fun _ _ _ _ _ _ => er_put1 rfl rfl,
  fun _ _ _ _ => er_go rfl rfl,
  fun _ _ _ => er_go rfl rfl,
  fun _ _ _ _ => er_go rfl rfl,
  fun _ _ _ _ _ _ => er_put1 rfl rfl,
  fun _ _ _ => er_ret rfl rfl⟩
/-- TwoStepOutputs.output(I)I -/
theorem r33 : (∀ (P : Nat × Nat) (l0 : Option Value) (l2 : Option Value) (x0 : Int32) (s : List Value) (h : am_H), am_E P 33 0 [l0, some (.int x0), l2] s h = am_E P 33 1 [l0, some (.int x0), l2] (.int x0 :: s) h) ∧
  (∀ (P : Nat × Nat) (l0 : Option Value) (l1 : Option Value) (l2 : Option Value) (x0 : Int32) (s : List Value) (h : am_H), am_E P 33 1 [l0, l1, l2] (.int x0 :: s) h = if x0 = 0 then am_E P 33 12 [l0, l1, l2] s h else am_E P 33 4 [l0, l1, l2] s h) ∧
  (∀ (P : Nat × Nat) (l0 : Option Value) (l2 : Option Value) (x0 : Int32) (s : List Value) (h : am_H), am_E P 33 4 [l0, some (.int x0), l2] s h = am_E P 33 5 [l0, some (.int x0), l2] (.int x0 :: s) h) ∧
  (∀ (P : Nat × Nat) (l0 : Option Value) (l1 : Option Value) (l2 : Option Value) (s : List Value) (h : am_H), am_E P 33 5 [l0, l1, l2] s h = am_E P 33 6 [l0, l1, l2] (.int 1 :: s) h) ∧
  (∀ (P : Nat × Nat) (l0 : Option Value) (l1 : Option Value) (l2 : Option Value) (x0 : Int32) (x1 : Int32) (s : List Value) (h : am_H), am_E P 33 6 [l0, l1, l2] (.int x1 :: .int x0 :: s) h = if x0 = x1 then am_E P 33 12 [l0, l1, l2] s h else am_E P 33 9 [l0, l1, l2] s h) ∧
  (∀ (P : Nat × Nat) (l0 : Option Value) (l1 : Option Value) (l2 : Option Value) (s : List Value) (h : am_H), am_E P 33 9 [l0, l1, l2] s h = am_E P 33 11 [l0, l1, l2] (.int (-2) :: s) h) ∧
  (∀ (P : Nat × Nat) (l0 : Option Value) (l1 : Option Value) (l2 : Option Value) (x0 : Int32) (h : am_H), am_E P 33 11 [l0, l1, l2] [.int x0] h = some (some (.int x0), h)) ∧
  (∀ (P : Nat × Nat) (l1 : Option Value) (l2 : Option Value) (a0 : Nat) (s : List Value) (h : am_H), am_E P 33 12 [some (.ref a0), l1, l2] s h = am_E P 33 13 [some (.ref a0), l1, l2] (.ref a0 :: s) h) ∧
  (∀ (P : Nat × Nat) (l1 : Option Value) (l2 : Option Value) (s : List Value) (h : am_H), am_E P 33 12 [some .null, l1, l2] s h = am_E P 33 13 [some .null, l1, l2] (.null :: s) h) ∧
  (∀ (P : Nat × Nat) (l0 : Option Value) (l1 : Option Value) (l2 : Option Value) (a0 : Nat) (s : List Value) (h : am_H), am_E P 33 13 [l0, l1, l2] (.ref a0 :: s) h = (am_g1 h a0 8 6).bind (fun v => am_E P 33 16 [l0, l1, l2] (v :: s) h)) ∧
  (∀ (P : Nat × Nat) (l0 : Option Value) (l1 : Option Value) (l2 : Option Value) (x0 : Int32) (s : List Value) (h : am_H), am_E P 33 16 [l0, l1, l2] (.int x0 :: s) h = if x0 = 0 then am_E P 33 22 [l0, l1, l2] s h else am_E P 33 19 [l0, l1, l2] s h) ∧
  (∀ (P : Nat × Nat) (l0 : Option Value) (l1 : Option Value) (l2 : Option Value) (s : List Value) (h : am_H), am_E P 33 19 [l0, l1, l2] s h = am_E P 33 21 [l0, l1, l2] (.int (-5) :: s) h) ∧
  (∀ (P : Nat × Nat) (l0 : Option Value) (l1 : Option Value) (l2 : Option Value) (x0 : Int32) (h : am_H), am_E P 33 21 [l0, l1, l2] [.int x0] h = some (some (.int x0), h)) ∧
  (∀ (P : Nat × Nat) (l1 : Option Value) (l2 : Option Value) (a0 : Nat) (s : List Value) (h : am_H), am_E P 33 22 [some (.ref a0), l1, l2] s h = am_E P 33 23 [some (.ref a0), l1, l2] (.ref a0 :: s) h) ∧
  (∀ (P : Nat × Nat) (l1 : Option Value) (l2 : Option Value) (s : List Value) (h : am_H), am_E P 33 22 [some .null, l1, l2] s h = am_E P 33 23 [some .null, l1, l2] (.null :: s) h) ∧
  (∀ (P : Nat × Nat) (l0 : Option Value) (l1 : Option Value) (l2 : Option Value) (a0 : Nat) (s : List Value) (h : am_H), am_E P 33 23 [l0, l1, l2] (.ref a0 :: s) h = (am_g1 h a0 8 3).bind (fun v => am_E P 33 26 [l0, l1, l2] (v :: s) h)) ∧
  (∀ (P : Nat × Nat) (l0 : Option Value) (l1 : Option Value) (l2 : Option Value) (a0 : Nat) (s : List Value) (h : am_H), am_E P 33 26 [l0, l1, l2] (.ref a0 :: s) h = (am_g1 h a0 1 2).bind (fun v => am_E P 33 29 [l0, l1, l2] (v :: s) h)) ∧
  (∀ (P : Nat × Nat) (l0 : Option Value) (l1 : Option Value) (l2 : Option Value) (x0 : Int32) (s : List Value) (h : am_H), am_E P 33 29 [l0, l1, l2] (.int x0 :: s) h = if x0 ≤ 0 then am_E P 33 35 [l0, l1, l2] s h else am_E P 33 32 [l0, l1, l2] s h) ∧
  (∀ (P : Nat × Nat) (l0 : Option Value) (l1 : Option Value) (l2 : Option Value) (s : List Value) (h : am_H), am_E P 33 32 [l0, l1, l2] s h = am_E P 33 34 [l0, l1, l2] (.int (-3) :: s) h) ∧
  (∀ (P : Nat × Nat) (l0 : Option Value) (l1 : Option Value) (l2 : Option Value) (x0 : Int32) (h : am_H), am_E P 33 34 [l0, l1, l2] [.int x0] h = some (some (.int x0), h)) ∧
  (∀ (P : Nat × Nat) (l1 : Option Value) (l2 : Option Value) (a0 : Nat) (s : List Value) (h : am_H), am_E P 33 35 [some (.ref a0), l1, l2] s h = am_E P 33 36 [some (.ref a0), l1, l2] (.ref a0 :: s) h) ∧
  (∀ (P : Nat × Nat) (l1 : Option Value) (l2 : Option Value) (s : List Value) (h : am_H), am_E P 33 35 [some .null, l1, l2] s h = am_E P 33 36 [some .null, l1, l2] (.null :: s) h) ∧
  (∀ (P : Nat × Nat) (l0 : Option Value) (l1 : Option Value) (l2 : Option Value) (a0 : Nat) (s : List Value) (h : am_H), am_E P 33 36 [l0, l1, l2] (.ref a0 :: s) h = (am_g1 h a0 8 0).bind (fun v => am_E P 33 39 [l0, l1, l2] (v :: s) h)) ∧
  (∀ (P : Nat × Nat) (l0 : Option Value) (l1 : Option Value) (l2 : Option Value) (a0 : Nat) (h : am_H), am_E P 33 39 [l0, l1, l2] [.ref a0] h = if am_cls h a0 = some 0 then (am_E P 118 0 [some (.ref a0)] [] h).bind (fun q => am_E P 33 42 [l0, l1, l2] (q.1.toList ++ []) q.2) else none) ∧
  (∀ (P : Nat × Nat) (l0 : Option Value) (l1 : Option Value) (l2 : Option Value) (s : List Value) (h : am_H), am_E P 33 42 [l0, l1, l2] s h = am_E P 33 43 [l0, l1, l2] (.int 3 :: s) h) ∧
  (∀ (P : Nat × Nat) (l0 : Option Value) (l1 : Option Value) (l2 : Option Value) (x0 : Int32) (x1 : Int32) (s : List Value) (h : am_H), am_E P 33 43 [l0, l1, l2] (.int x1 :: .int x0 :: s) h = if x0 < x1 then am_E P 33 49 [l0, l1, l2] s h else am_E P 33 46 [l0, l1, l2] s h) ∧
  (∀ (P : Nat × Nat) (l0 : Option Value) (l1 : Option Value) (l2 : Option Value) (s : List Value) (h : am_H), am_E P 33 46 [l0, l1, l2] s h = am_E P 33 48 [l0, l1, l2] (.int (-4) :: s) h) ∧
  (∀ (P : Nat × Nat) (l0 : Option Value) (l1 : Option Value) (l2 : Option Value) (x0 : Int32) (h : am_H), am_E P 33 48 [l0, l1, l2] [.int x0] h = some (some (.int x0), h)) ∧
  (∀ (P : Nat × Nat) (l1 : Option Value) (l2 : Option Value) (a0 : Nat) (s : List Value) (h : am_H), am_E P 33 49 [some (.ref a0), l1, l2] s h = am_E P 33 50 [some (.ref a0), l1, l2] (.ref a0 :: s) h) ∧
  (∀ (P : Nat × Nat) (l1 : Option Value) (l2 : Option Value) (s : List Value) (h : am_H), am_E P 33 49 [some .null, l1, l2] s h = am_E P 33 50 [some .null, l1, l2] (.null :: s) h) ∧
  (∀ (P : Nat × Nat) (l0 : Option Value) (l1 : Option Value) (l2 : Option Value) (a0 : Nat) (s : List Value) (h : am_H), am_E P 33 50 [l0, l1, l2] (.ref a0 :: s) h = (am_g1 h a0 8 0).bind (fun v => am_E P 33 53 [l0, l1, l2] (v :: s) h)) ∧
  (∀ (P : Nat × Nat) (l0 : Option Value) (l1 : Option Value) (l2 : Option Value) (a0 : Nat) (h : am_H), am_E P 33 53 [l0, l1, l2] [.ref a0] h = if am_cls h a0 = some 0 then (am_E P 118 0 [some (.ref a0)] [] h).bind (fun q => am_E P 33 56 [l0, l1, l2] (q.1.toList ++ []) q.2) else none) ∧
  (∀ (P : Nat × Nat) (l0 : Option Value) (l1 : Option Value) (l2 : Option Value) (x0 : Int32) (s : List Value) (h : am_H), am_E P 33 56 [l0, l1, l2] (.int x0 :: s) h = am_E P 33 57 [l0, l1, some (.int x0)] s h) ∧
  (∀ (P : Nat × Nat) (l1 : Option Value) (l2 : Option Value) (a0 : Nat) (s : List Value) (h : am_H), am_E P 33 57 [some (.ref a0), l1, l2] s h = am_E P 33 58 [some (.ref a0), l1, l2] (.ref a0 :: s) h) ∧
  (∀ (P : Nat × Nat) (l1 : Option Value) (l2 : Option Value) (s : List Value) (h : am_H), am_E P 33 57 [some .null, l1, l2] s h = am_E P 33 58 [some .null, l1, l2] (.null :: s) h) ∧
  (∀ (P : Nat × Nat) (l0 : Option Value) (l1 : Option Value) (l2 : Option Value) (a0 : Nat) (s : List Value) (h : am_H), am_E P 33 58 [l0, l1, l2] (.ref a0 :: s) h = (am_g1 h a0 8 0).bind (fun v => am_E P 33 61 [l0, l1, l2] (v :: s) h)) ∧
  (∀ (P : Nat × Nat) (l0 : Option Value) (l1 : Option Value) (l2 : Option Value) (s : List Value) (h : am_H), am_E P 33 61 [l0, l1, l2] s h = am_E P 33 64 [l0, l1, l2] (.ref h.1 :: s) (ah_new h 10 (ac_O 4 [.int 0, .int 0, .null, .null, .int 0, .null, .int 0, .int 0, .null, .null]))) ∧
  (∀ (P : Nat × Nat) (l0 : Option Value) (l1 : Option Value) (l2 : Option Value) (a0 : Nat) (s : List Value) (h : am_H), am_E P 33 64 [l0, l1, l2] (.ref a0 :: s) h = am_E P 33 65 [l0, l1, l2] (.ref a0 :: .ref a0 :: s) h) ∧
  (∀ (P : Nat × Nat) (l0 : Option Value) (l1 : Option Value) (x0 : Int32) (s : List Value) (h : am_H), am_E P 33 65 [l0, l1, some (.int x0)] s h = am_E P 33 66 [l0, l1, some (.int x0)] (.int x0 :: s) h) ∧
  (∀ (P : Nat × Nat) (l0 : Option Value) (l2 : Option Value) (x0 : Int32) (s : List Value) (h : am_H), am_E P 33 66 [l0, some (.int x0), l2] s h = am_E P 33 67 [l0, some (.int x0), l2] (.int x0 :: s) h) ∧
  (∀ (P : Nat × Nat) (l0 : Option Value) (l1 : Option Value) (l2 : Option Value) (a0 : Nat) (x0 : Int32) (x1 : Int32) (v0 : Value) (v1 : Value) (h : am_H), am_E P 33 67 [l0, l1, l2] [.int x1, .int x0, .ref a0, v0, v1] h = (am_E P 10 0 [some (.ref a0), some (.int x0), some (.int x1)] [] h).bind (fun q => am_E P 33 70 [l0, l1, l2] (q.1.toList ++ [v0, v1]) q.2)) ∧
  (∀ (P : Nat × Nat) (l0 : Option Value) (l1 : Option Value) (l2 : Option Value) (a0 : Nat) (a1 : Nat) (h : am_H), am_E P 33 70 [l0, l1, l2] [.ref a1, .ref a0] h = if am_cls h a0 = some 0 then (am_E P 122 0 [some (.ref a0), some (.ref a1)] [] h).bind (fun q => am_E P 33 73 [l0, l1, l2] (q.1.toList ++ []) q.2) else none) ∧
  (∀ (P : Nat × Nat) (l0 : Option Value) (l1 : Option Value) (l2 : Option Value) (x0 : Int32) (s : List Value) (h : am_H), am_E P 33 73 [l0, l1, l2] (.int x0 :: s) h = am_E P 33 74 [l0, l1, l2] s h) ∧
  (∀ (P : Nat × Nat) (l0 : Option Value) (l1 : Option Value) (x0 : Int32) (s : List Value) (h : am_H), am_E P 33 74 [l0, l1, some (.int x0)] s h = am_E P 33 75 [l0, l1, some (.int x0)] (.int x0 :: s) h) ∧
  (∀ (P : Nat × Nat) (l0 : Option Value) (l1 : Option Value) (l2 : Option Value) (x0 : Int32) (h : am_H), am_E P 33 75 [l0, l1, l2] [.int x0] h = some (some (.int x0), h)) :=
  ⟨fun _ _ _ _ _ _ => er_go rfl rfl,
  fun _ _ _ _ _ _ _ => er_if_eq rfl,
  fun _ _ _ _ _ _ => er_go rfl rfl,
  fun _ _ _ _ _ _ => er_go rfl rfl,
  fun _ _ _ _ _ _ _ _ => er_ic_eq rfl,
  fun _ _ _ _ _ _ => er_go rfl rfl,
  fun _ _ _ _ _ _ => er_ret rfl rfl,
  fun _ _ _ _ _ _ => er_go rfl rfl,
  fun _ _ _ _ _ => er_go rfl rfl,
  fun _ _ _ _ _ _ _ => er_get1 rfl,
  fun _ _ _ _ _ _ _ => er_if_eq rfl,
  fun _ _ _ _ _ _ => er_go rfl rfl,
  fun _ _ _ _ _ _ => er_ret rfl rfl,
  fun _ _ _ _ _ _ => er_go rfl rfl,
  fun _ _ _ _ _ => er_go rfl rfl,
  fun _ _ _ _ _ _ _ => er_get1 rfl,
  fun _ _ _ _ _ _ _ => er_get1 rfl,
  fun _ _ _ _ _ _ _ => er_if_le rfl,
  fun _ _ _ _ _ _ => er_go rfl rfl,
  fun _ _ _ _ _ _ => er_ret rfl rfl,
  fun _ _ _ _ _ _ => er_go rfl rfl,
  fun _ _ _ _ _ => er_go rfl rfl,
  fun _ _ _ _ _ _ _ => er_get1 rfl,
  fun _ _ _ _ _ _ => er_callV rfl rfl rfl rfl,
  fun _ _ _ _ _ _ => er_go rfl rfl,
  fun _ _ _ _ _ _ _ _ => er_ic_lt rfl,
  fun _ _ _ _ _ _ => er_go rfl rfl,
  fun _ _ _ _ _ _ => er_ret rfl rfl,
  fun _ _ _ _ _ _ => er_go rfl rfl,
  fun _ _ _ _ _ => er_go rfl rfl,
  fun _ _ _ _ _ _ _ => er_get1 rfl,
  fun _ _ _ _ _ _ => er_callV rfl rfl rfl rfl,
  fun _ _ _ _ _ _ _ => er_go rfl rfl,
  fun _ _ _ _ _ _ => er_go rfl rfl,
  fun _ _ _ _ _ => er_go rfl rfl,
  fun _ _ _ _ _ _ _ => er_get1 rfl,
  fun _ _ _ _ _ _ => er_go rfl rfl,
  fun _ _ _ _ _ _ _ => er_go rfl rfl,
  fun _ _ _ _ _ _ => er_go rfl rfl,
  fun _ _ _ _ _ _ => er_go rfl rfl,
  fun _ _ _ _ _ _ _ _ _ _ => er_callS rfl rfl rfl,
  fun _ _ _ _ _ _ _ => er_callV rfl rfl rfl rfl,
  fun _ _ _ _ _ _ _ => er_go rfl rfl,
  fun _ _ _ _ _ _ => er_go rfl rfl,
  fun _ _ _ _ _ _ => er_ret rfl rfl⟩
/-- TwoStepOutputs.write(III)I -/
theorem r34 : (∀ (P : Nat × Nat) (l1 : Option Value) (l2 : Option Value) (l3 : Option Value) (l4 : Option Value) (a0 : Nat) (s : List Value) (h : am_H), am_E P 34 0 [some (.ref a0), l1, l2, l3, l4] s h = am_E P 34 1 [some (.ref a0), l1, l2, l3, l4] (.ref a0 :: s) h) ∧
  (∀ (P : Nat × Nat) (l1 : Option Value) (l2 : Option Value) (l3 : Option Value) (l4 : Option Value) (s : List Value) (h : am_H), am_E P 34 0 [some .null, l1, l2, l3, l4] s h = am_E P 34 1 [some .null, l1, l2, l3, l4] (.null :: s) h) ∧
  (∀ (P : Nat × Nat) (l0 : Option Value) (l2 : Option Value) (l3 : Option Value) (l4 : Option Value) (x0 : Int32) (s : List Value) (h : am_H), am_E P 34 1 [l0, some (.int x0), l2, l3, l4] s h = am_E P 34 2 [l0, some (.int x0), l2, l3, l4] (.int x0 :: s) h) ∧
  (∀ (P : Nat × Nat) (l0 : Option Value) (l1 : Option Value) (l2 : Option Value) (l3 : Option Value) (l4 : Option Value) (a0 : Nat) (x0 : Int32) (h : am_H), am_E P 34 2 [l0, l1, l2, l3, l4] [.int x0, .ref a0] h = if am_cls h a0 = some 8 then (am_E P 53 0 [some (.ref a0), some (.int x0)] [] h).bind (fun q => am_E P 34 5 [l0, l1, l2, l3, l4] (q.1.toList ++ []) q.2) else none) ∧
  (∀ (P : Nat × Nat) (l0 : Option Value) (l1 : Option Value) (l2 : Option Value) (l3 : Option Value) (l4 : Option Value) (a0 : Nat) (s : List Value) (h : am_H), am_E P 34 5 [l0, l1, l2, l3, l4] (.ref a0 :: s) h = am_E P 34 7 [l0, l1, l2, l3, some (.ref a0)] s h) ∧
  (∀ (P : Nat × Nat) (l0 : Option Value) (l1 : Option Value) (l2 : Option Value) (l3 : Option Value) (l4 : Option Value) (s : List Value) (h : am_H), am_E P 34 5 [l0, l1, l2, l3, l4] (.null :: s) h = am_E P 34 7 [l0, l1, l2, l3, some .null] s h) ∧
  (∀ (P : Nat × Nat) (l0 : Option Value) (l1 : Option Value) (l2 : Option Value) (l3 : Option Value) (a0 : Nat) (s : List Value) (h : am_H), am_E P 34 7 [l0, l1, l2, l3, some (.ref a0)] s h = am_E P 34 9 [l0, l1, l2, l3, some (.ref a0)] (.ref a0 :: s) h) ∧
  (∀ (P : Nat × Nat) (l0 : Option Value) (l1 : Option Value) (l2 : Option Value) (l3 : Option Value) (s : List Value) (h : am_H), am_E P 34 7 [l0, l1, l2, l3, some .null] s h = am_E P 34 9 [l0, l1, l2, l3, some .null] (.null :: s) h) ∧
  (∀ (P : Nat × Nat) (l0 : Option Value) (l1 : Option Value) (l2 : Option Value) (l3 : Option Value) (l4 : Option Value) (a0 : Nat) (s : List Value) (h : am_H), am_E P 34 9 [l0, l1, l2, l3, l4] (.ref a0 :: s) h = am_E P 34 14 [l0, l1, l2, l3, l4] s h) ∧
  (∀ (P : Nat × Nat) (l0 : Option Value) (l1 : Option Value) (l2 : Option Value) (l3 : Option Value) (l4 : Option Value) (s : List Value) (h : am_H), am_E P 34 9 [l0, l1, l2, l3, l4] (.null :: s) h = am_E P 34 12 [l0, l1, l2, l3, l4] s h) ∧
  (∀ (P : Nat × Nat) (l0 : Option Value) (l1 : Option Value) (l2 : Option Value) (l3 : Option Value) (l4 : Option Value) (s : List Value) (h : am_H), am_E P 34 12 [l0, l1, l2, l3, l4] s h = am_E P 34 13 [l0, l1, l2, l3, l4] (.int (-1) :: s) h) ∧
  (∀ (P : Nat × Nat) (l0 : Option Value) (l1 : Option Value) (l2 : Option Value) (l3 : Option Value) (l4 : Option Value) (x0 : Int32) (h : am_H), am_E P 34 13 [l0, l1, l2, l3, l4] [.int x0] h = some (some (.int x0), h)) ∧
  (∀ (P : Nat × Nat) (l0 : Option Value) (l1 : Option Value) (l3 : Option Value) (l4 : Option Value) (x0 : Int32) (s : List Value) (h : am_H), am_E P 34 14 [l0, l1, some (.int x0), l3, l4] s h = am_E P 34 15 [l0, l1, some (.int x0), l3, l4] (.int x0 :: s) h) ∧
  (∀ (P : Nat × Nat) (l0 : Option Value) (l1 : Option Value) (l2 : Option Value) (l3 : Option Value) (l4 : Option Value) (x0 : Int32) (h : am_H), am_E P 34 15 [l0, l1, l2, l3, l4] [.int x0] h = (am_E P 55 0 [some (.int x0)] [] h).bind (fun q => am_E P 34 18 [l0, l1, l2, l3, l4] (q.1.toList ++ []) q.2)) ∧
  (∀ (P : Nat × Nat) (l0 : Option Value) (l1 : Option Value) (l2 : Option Value) (l3 : Option Value) (l4 : Option Value) (x0 : Int32) (s : List Value) (h : am_H), am_E P 34 18 [l0, l1, l2, l3, l4] (.int x0 :: s) h = if x0 = 0 then am_E P 34 21 [l0, l1, l2, l3, l4] s h else am_E P 34 24 [l0, l1, l2, l3, l4] s h) ∧
  (∀ (P : Nat × Nat) (l0 : Option Value) (l1 : Option Value) (l2 : Option Value) (l3 : Option Value) (l4 : Option Value) (s : List Value) (h : am_H), am_E P 34 21 [l0, l1, l2, l3, l4] s h = am_E P 34 23 [l0, l1, l2, l3, l4] (.int (-2) :: s) h) ∧
  (∀ (P : Nat × Nat) (l0 : Option Value) (l1 : Option Value) (l2 : Option Value) (l3 : Option Value) (l4 : Option Value) (x0 : Int32) (h : am_H), am_E P 34 23 [l0, l1, l2, l3, l4] [.int x0] h = some (some (.int x0), h)) ∧
  (∀ (P : Nat × Nat) (l1 : Option Value) (l2 : Option Value) (l3 : Option Value) (l4 : Option Value) (a0 : Nat) (s : List Value) (h : am_H), am_E P 34 24 [some (.ref a0), l1, l2, l3, l4] s h = am_E P 34 25 [some (.ref a0), l1, l2, l3, l4] (.ref a0 :: s) h) ∧
  (∀ (P : Nat × Nat) (l1 : Option Value) (l2 : Option Value) (l3 : Option Value) (l4 : Option Value) (s : List Value) (h : am_H), am_E P 34 24 [some .null, l1, l2, l3, l4] s h = am_E P 34 25 [some .null, l1, l2, l3, l4] (.null :: s) h) ∧
  (∀ (P : Nat × Nat) (l0 : Option Value) (l1 : Option Value) (l2 : Option Value) (l3 : Option Value) (l4 : Option Value) (a0 : Nat) (s : List Value) (h : am_H), am_E P 34 25 [l0, l1, l2, l3, l4] (.ref a0 :: s) h = (am_g1 h a0 8 6).bind (fun v => am_E P 34 28 [l0, l1, l2, l3, l4] (v :: s) h)) ∧
  (∀ (P : Nat × Nat) (l0 : Option Value) (l1 : Option Value) (l2 : Option Value) (l3 : Option Value) (l4 : Option Value) (x0 : Int32) (s : List Value) (h : am_H), am_E P 34 28 [l0, l1, l2, l3, l4] (.int x0 :: s) h = if x0 = 0 then am_E P 34 34 [l0, l1, l2, l3, l4] s h else am_E P 34 31 [l0, l1, l2, l3, l4] s h) ∧
  (∀ (P : Nat × Nat) (l0 : Option Value) (l1 : Option Value) (l2 : Option Value) (l3 : Option Value) (l4 : Option Value) (s : List Value) (h : am_H), am_E P 34 31 [l0, l1, l2, l3, l4] s h = am_E P 34 33 [l0, l1, l2, l3, l4] (.int (-5) :: s) h) ∧
  (∀ (P : Nat × Nat) (l0 : Option Value) (l1 : Option Value) (l2 : Option Value) (l3 : Option Value) (l4 : Option Value) (x0 : Int32) (h : am_H), am_E P 34 33 [l0, l1, l2, l3, l4] [.int x0] h = some (some (.int x0), h)) ∧
  (∀ (P : Nat × Nat) (l1 : Option Value) (l2 : Option Value) (l3 : Option Value) (l4 : Option Value) (a0 : Nat) (s : List Value) (h : am_H), am_E P 34 34 [some (.ref a0), l1, l2, l3, l4] s h = am_E P 34 35 [some (.ref a0), l1, l2, l3, l4] (.ref a0 :: s) h) ∧
  (∀ (P : Nat × Nat) (l1 : Option Value) (l2 : Option Value) (l3 : Option Value) (l4 : Option Value) (s : List Value) (h : am_H), am_E P 34 34 [some .null, l1, l2, l3, l4] s h = am_E P 34 35 [some .null, l1, l2, l3, l4] (.null :: s) h) ∧
  (∀ (P : Nat × Nat) (l0 : Option Value) (l1 : Option Value) (l2 : Option Value) (l3 : Option Value) (l4 : Option Value) (a0 : Nat) (s : List Value) (h : am_H), am_E P 34 35 [l0, l1, l2, l3, l4] (.ref a0 :: s) h = (am_g1 h a0 8 5).bind (fun v => am_E P 34 38 [l0, l1, l2, l3, l4] (v :: s) h)) ∧
  (∀ (P : Nat × Nat) (l0 : Option Value) (l1 : Option Value) (l2 : Option Value) (l3 : Option Value) (l4 : Option Value) (x0 : Int32) (s : List Value) (h : am_H), am_E P 34 38 [l0, l1, l2, l3, l4] (.int x0 :: s) h = if x0 = 0 then am_E P 34 44 [l0, l1, l2, l3, l4] s h else am_E P 34 41 [l0, l1, l2, l3, l4] s h) ∧
  (∀ (P : Nat × Nat) (l0 : Option Value) (l1 : Option Value) (l2 : Option Value) (l3 : Option Value) (l4 : Option Value) (s : List Value) (h : am_H), am_E P 34 41 [l0, l1, l2, l3, l4] s h = am_E P 34 43 [l0, l1, l2, l3, l4] (.int (-3) :: s) h) ∧
  (∀ (P : Nat × Nat) (l0 : Option Value) (l1 : Option Value) (l2 : Option Value) (l3 : Option Value) (l4 : Option Value) (x0 : Int32) (h : am_H), am_E P 34 43 [l0, l1, l2, l3, l4] [.int x0] h = some (some (.int x0), h)) ∧
  (∀ (P : Nat × Nat) (l0 : Option Value) (l1 : Option Value) (l2 : Option Value) (l3 : Option Value) (a0 : Nat) (s : List Value) (h : am_H), am_E P 34 44 [l0, l1, l2, l3, some (.ref a0)] s h = am_E P 34 46 [l0, l1, l2, l3, some (.ref a0)] (.ref a0 :: s) h) ∧
  (∀ (P : Nat × Nat) (l0 : Option Value) (l1 : Option Value) (l2 : Option Value) (l3 : Option Value) (s : List Value) (h : am_H), am_E P 34 44 [l0, l1, l2, l3, some .null] s h = am_E P 34 46 [l0, l1, l2, l3, some .null] (.null :: s) h) ∧
  (∀ (P : Nat × Nat) (l0 : Option Value) (l1 : Option Value) (l3 : Option Value) (l4 : Option Value) (x0 : Int32) (s : List Value) (h : am_H), am_E P 34 46 [l0, l1, some (.int x0), l3, l4] s h = am_E P 34 47 [l0, l1, some (.int x0), l3, l4] (.int x0 :: s) h) ∧
  (∀ (P : Nat × Nat) (l0 : Option Value) (l1 : Option Value) (l2 : Option Value) (l4 : Option Value) (x0 : Int32) (s : List Value) (h : am_H), am_E P 34 47 [l0, l1, l2, some (.int x0), l4] s h = am_E P 34 48 [l0, l1, l2, some (.int x0), l4] (.int x0 :: s) h) ∧
  (∀ (P : Nat × Nat) (l0 : Option Value) (l1 : Option Value) (l2 : Option Value) (l3 : Option Value) (l4 : Option Value) (a0 : Nat) (x0 : Int32) (x1 : Int32) (h : am_H), am_E P 34 48 [l0, l1, l2, l3, l4] [.int x1, .int x0, .ref a0] h = if am_cls h a0 = some 4 then (am_E P 11 0 [some (.ref a0), some (.int x0), some (.int x1)] [] h).bind (fun q => am_E P 34 51 [l0, l1, l2, l3, l4] (q.1.toList ++ []) q.2) else none) ∧
  (∀ (P : Nat × Nat) (l0 : Option Value) (l1 : Option Value) (l2 : Option Value) (l3 : Option Value) (l4 : Option Value) (x0 : Int32) (s : List Value) (h : am_H), am_E P 34 51 [l0, l1, l2, l3, l4] (.int x0 :: s) h = if x0 = 0 then am_E P 34 62 [l0, l1, l2, l3, l4] s h else am_E P 34 54 [l0, l1, l2, l3, l4] s h) ∧
  (∀ (P : Nat × Nat) (l0 : Option Value) (l1 : Option Value) (l2 : Option Value) (l3 : Option Value) (a0 : Nat) (s : List Value) (h : am_H), am_E P 34 54 [l0, l1, l2, l3, some (.ref a0)] s h = am_E P 34 56 [l0, l1, l2, l3, some (.ref a0)] (.ref a0 :: s) h) ∧
  (∀ (P : Nat × Nat) (l0 : Option Value) (l1 : Option Value) (l2 : Option Value) (l3 : Option Value) (s : List Value) (h : am_H), am_E P 34 54 [l0, l1, l2, l3, some .null] s h = am_E P 34 56 [l0, l1, l2, l3, some .null] (.null :: s) h) ∧
  (∀ (P : Nat × Nat) (l0 : Option Value) (l1 : Option Value) (l2 : Option Value) (l3 : Option Value) (l4 : Option Value) (a0 : Nat) (s : List Value) (h : am_H), am_E P 34 56 [l0, l1, l2, l3, l4] (.ref a0 :: s) h = (am_g1 h a0 4 4).bind (fun v => am_E P 34 59 [l0, l1, l2, l3, l4] (v :: s) h)) ∧
  (∀ (P : Nat × Nat) (l0 : Option Value) (l1 : Option Value) (l2 : Option Value) (l3 : Option Value) (l4 : Option Value) (s : List Value) (h : am_H), am_E P 34 59 [l0, l1, l2, l3, l4] s h = am_E P 34 64 [l0, l1, l2, l3, l4] s h) ∧
  (∀ (P : Nat × Nat) (l0 : Option Value) (l1 : Option Value) (l2 : Option Value) (l3 : Option Value) (l4 : Option Value) (s : List Value) (h : am_H), am_E P 34 62 [l0, l1, l2, l3, l4] s h = am_E P 34 64 [l0, l1, l2, l3, l4] (.int (-4) :: s) h) ∧
  (∀ (P : Nat × Nat) (l0 : Option Value) (l1 : Option Value) (l2 : Option Value) (l3 : Option Value) (l4 : Option Value) (x0 : Int32) (h : am_H), am_E P 34 64 [l0, l1, l2, l3, l4] [.int x0] h = some (some (.int x0), h)) :=
  ⟨fun _ _ _ _ _ _ _ _ => er_go rfl rfl,
  fun _ _ _ _ _ _ _ => er_go rfl rfl,
  fun _ _ _ _ _ _ _ _ => er_go rfl rfl,
  fun _ _ _ _ _ _ _ _ _ => er_callV rfl rfl rfl rfl,
  fun _ _ _ _ _ _ _ _ _ => er_go rfl rfl,
  fun _ _ _ _ _ _ _ _ => er_go rfl rfl,
  fun _ _ _ _ _ _ _ _ => er_go rfl rfl,
  fun _ _ _ _ _ _ _ => er_go rfl rfl,
  fun _ _ _ _ _ _ _ _ _ => er_go rfl rfl,
  fun _ _ _ _ _ _ _ _ => er_go rfl rfl,
  fun _ _ _ _ _ _ _ _ => er_go rfl rfl,
  fun _ _ _ _ _ _ _ _ => er_ret rfl rfl,
  fun _ _ _ _ _ _ _ _ => er_go rfl rfl,
  fun _ _ _ _ _ _ _ _ => er_callS rfl rfl rfl,
  fun _ _ _ _ _ _ _ _ _ => er_if_ne rfl,
  fun _ _ _ _ _ _ _ _ => er_go rfl rfl,
  fun _ _ _ _ _ _ _ _ => er_ret rfl rfl,
  fun _ _ _ _ _ _ _ _ => er_go rfl rfl,
  fun _ _ _ _ _ _ _ => er_go rfl rfl,
  fun _ _ _ _ _ _ _ _ _ => er_get1 rfl,
  fun _ _ _ _ _ _ _ _ _ => er_if_eq rfl,
  fun _ _ _ _ _ _ _ _ => er_go rfl rfl,
  fun _ _ _ _ _ _ _ _ => er_ret rfl rfl,
  fun _ _ _ _ _ _ _ _ => er_go rfl rfl,
  fun _ _ _ _ _ _ _ => er_go rfl rfl,
  fun _ _ _ _ _ _ _ _ _ => er_get1 rfl,
  fun _ _ _ _ _ _ _ _ _ => er_if_eq rfl,
  fun _ _ _ _ _ _ _ _ => er_go rfl rfl,
  fun _ _ _ _ _ _ _ _ => er_ret rfl rfl,
  fun _ _ _ _ _ _ _ _ => er_go rfl rfl,
  fun _ _ _ _ _ _ _ => er_go rfl rfl,
  fun _ _ _ _ _ _ _ _ => er_go rfl rfl,
  fun _ _ _ _ _ _ _ _ => er_go rfl rfl,
  fun _ _ _ _ _ _ _ _ _ _ => er_callV rfl rfl rfl rfl,
  fun _ _ _ _ _ _ _ _ _ => er_if_eq rfl,
  fun _ _ _ _ _ _ _ _ => er_go rfl rfl,
  fun _ _ _ _ _ _ _ => er_go rfl rfl,
  fun _ _ _ _ _ _ _ _ _ => er_get1 rfl,
  fun _ _ _ _ _ _ _ _ => er_go rfl rfl,
  fun _ _ _ _ _ _ _ _ => er_go rfl rfl,
  fun _ _ _ _ _ _ _ _ => er_ret rfl rfl⟩
/-- TwoStepOutputs.barrier(I)I -/
theorem r35 : (∀ (P : Nat × Nat) (l1 : Option Value) (l2 : Option Value) (a0 : Nat) (s : List Value) (h : am_H), am_E P 35 0 [some (.ref a0), l1, l2] s h = am_E P 35 1 [some (.ref a0), l1, l2] (.ref a0 :: s) h) ∧
  (∀ (P : Nat × Nat) (l1 : Option Value) (l2 : Option Value) (s : List Value) (h : am_H), am_E P 35 0 [some .null, l1, l2] s h = am_E P 35 1 [some .null, l1, l2] (.null :: s) h) ∧
  (∀ (P : Nat × Nat) (l0 : Option Value) (l2 : Option Value) (x0 : Int32) (s : List Value) (h : am_H), am_E P 35 1 [l0, some (.int x0), l2] s h = am_E P 35 2 [l0, some (.int x0), l2] (.int x0 :: s) h) ∧
  (∀ (P : Nat × Nat) (l0 : Option Value) (l1 : Option Value) (l2 : Option Value) (a0 : Nat) (x0 : Int32) (h : am_H), am_E P 35 2 [l0, l1, l2] [.int x0, .ref a0] h = if am_cls h a0 = some 8 then (am_E P 61 0 [some (.ref a0), some (.int x0)] [] h).bind (fun q => am_E P 35 5 [l0, l1, l2] (q.1.toList ++ []) q.2) else none) ∧
  (∀ (P : Nat × Nat) (l0 : Option Value) (l1 : Option Value) (l2 : Option Value) (x0 : Int32) (s : List Value) (h : am_H), am_E P 35 5 [l0, l1, l2] (.int x0 :: s) h = am_E P 35 6 [l0, l1, some (.int x0)] s h) ∧
  (∀ (P : Nat × Nat) (l0 : Option Value) (l1 : Option Value) (x0 : Int32) (s : List Value) (h : am_H), am_E P 35 6 [l0, l1, some (.int x0)] s h = am_E P 35 7 [l0, l1, some (.int x0)] (.int x0 :: s) h) ∧
  (∀ (P : Nat × Nat) (l0 : Option Value) (l1 : Option Value) (l2 : Option Value) (x0 : Int32) (s : List Value) (h : am_H), am_E P 35 7 [l0, l1, l2] (.int x0 :: s) h = if x0 = 0 then am_E P 35 10 [l0, l1, l2] s h else am_E P 35 18 [l0, l1, l2] s h) ∧
  (∀ (P : Nat × Nat) (l1 : Option Value) (l2 : Option Value) (a0 : Nat) (s : List Value) (h : am_H), am_E P 35 10 [some (.ref a0), l1, l2] s h = am_E P 35 11 [some (.ref a0), l1, l2] (.ref a0 :: s) h) ∧
  (∀ (P : Nat × Nat) (l1 : Option Value) (l2 : Option Value) (s : List Value) (h : am_H), am_E P 35 10 [some .null, l1, l2] s h = am_E P 35 11 [some .null, l1, l2] (.null :: s) h) ∧
  (∀ (P : Nat × Nat) (l0 : Option Value) (l2 : Option Value) (x0 : Int32) (s : List Value) (h : am_H), am_E P 35 11 [l0, some (.int x0), l2] s h = am_E P 35 12 [l0, some (.int x0), l2] (.int x0 :: s) h) ∧
  (∀ (P : Nat × Nat) (l0 : Option Value) (l1 : Option Value) (l2 : Option Value) (a0 : Nat) (x0 : Int32) (h : am_H), am_E P 35 12 [l0, l1, l2] [.int x0, .ref a0] h = if am_cls h a0 = some 8 then (am_E P 63 0 [some (.ref a0), some (.int x0), none, none, none, none] [] h).bind (fun q => am_E P 35 15 [l0, l1, l2] (q.1.toList ++ []) q.2) else none) ∧
  (∀ (P : Nat × Nat) (l0 : Option Value) (l1 : Option Value) (l2 : Option Value) (s : List Value) (h : am_H), am_E P 35 15 [l0, l1, l2] s h = am_E P 35 19 [l0, l1, l2] s h) ∧
  (∀ (P : Nat × Nat) (l0 : Option Value) (l1 : Option Value) (x0 : Int32) (s : List Value) (h : am_H), am_E P 35 18 [l0, l1, some (.int x0)] s h = am_E P 35 19 [l0, l1, some (.int x0)] (.int x0 :: s) h) ∧
  (∀ (P : Nat × Nat) (l0 : Option Value) (l1 : Option Value) (l2 : Option Value) (x0 : Int32) (h : am_H), am_E P 35 19 [l0, l1, l2] [.int x0] h = some (some (.int x0), h)) :=
  ⟨fun _ _ _ _ _ _ => er_go rfl rfl,
  fun _ _ _ _ _ => er_go rfl rfl,
  fun _ _ _ _ _ _ => er_go rfl rfl,
  fun _ _ _ _ _ _ _ => er_callV rfl rfl rfl rfl,
  fun _ _ _ _ _ _ _ => er_go rfl rfl,
  fun _ _ _ _ _ _ => er_go rfl rfl,
  fun _ _ _ _ _ _ _ => er_if_ne rfl,
  fun _ _ _ _ _ _ => er_go rfl rfl,
  fun _ _ _ _ _ => er_go rfl rfl,
  fun _ _ _ _ _ _ => er_go rfl rfl,
  fun _ _ _ _ _ _ _ => er_callV rfl rfl rfl rfl,
  fun _ _ _ _ _ _ => er_go rfl rfl,
  fun _ _ _ _ _ _ => er_go rfl rfl,
  fun _ _ _ _ _ _ => er_ret rfl rfl⟩
/-- TwoStepOutputs.keep(I)I -/
theorem r36 : (∀ (P : Nat × Nat) (l0 : Option Value) (x0 : Int32) (s : List Value) (h : am_H), am_E P 36 0 [l0, some (.int x0)] s h = am_E P 36 1 [l0, some (.int x0)] (.int x0 :: s) h) ∧
  (∀ (P : Nat × Nat) (l1 : Option Value) (a0 : Nat) (s : List Value) (h : am_H), am_E P 36 1 [some (.ref a0), l1] s h = am_E P 36 2 [some (.ref a0), l1] (.ref a0 :: s) h) ∧
  (∀ (P : Nat × Nat) (l1 : Option Value) (s : List Value) (h : am_H), am_E P 36 1 [some .null, l1] s h = am_E P 36 2 [some .null, l1] (.null :: s) h) ∧
  (∀ (P : Nat × Nat) (l0 : Option Value) (l1 : Option Value) (a0 : Nat) (s : List Value) (h : am_H), am_E P 36 2 [l0, l1] (.ref a0 :: s) h = (am_g1 h a0 8 4).bind (fun v => am_E P 36 5 [l0, l1] (v :: s) h)) ∧
  (∀ (P : Nat × Nat) (l0 : Option Value) (l1 : Option Value) (x0 : Int32) (x1 : Int32) (s : List Value) (h : am_H), am_E P 36 5 [l0, l1] (.int x1 :: .int x0 :: s) h = if x0 ≤ x1 then am_E P 36 19 [l0, l1] s h else am_E P 36 8 [l0, l1] s h) ∧
  (∀ (P : Nat × Nat) (l1 : Option Value) (a0 : Nat) (s : List Value) (h : am_H), am_E P 36 8 [some (.ref a0), l1] s h = am_E P 36 9 [some (.ref a0), l1] (.ref a0 :: s) h) ∧
  (∀ (P : Nat × Nat) (l1 : Option Value) (s : List Value) (h : am_H), am_E P 36 8 [some .null, l1] s h = am_E P 36 9 [some .null, l1] (.null :: s) h) ∧
  (∀ (P : Nat × Nat) (l0 : Option Value) (l1 : Option Value) (a0 : Nat) (s : List Value) (h : am_H), am_E P 36 9 [l0, l1] (.ref a0 :: s) h = (am_g1 h a0 8 3).bind (fun v => am_E P 36 12 [l0, l1] (v :: s) h)) ∧
  (∀ (P : Nat × Nat) (l0 : Option Value) (x0 : Int32) (s : List Value) (h : am_H), am_E P 36 12 [l0, some (.int x0)] s h = am_E P 36 13 [l0, some (.int x0)] (.int x0 :: s) h) ∧
  (∀ (P : Nat × Nat) (l0 : Option Value) (l1 : Option Value) (a0 : Nat) (x0 : Int32) (h : am_H), am_E P 36 13 [l0, l1] [.int x0, .ref a0] h = if am_cls h a0 = some 1 then (am_E P 2 0 [some (.ref a0), some (.int x0), none] [] h).bind (fun q => am_E P 36 16 [l0, l1] (q.1.toList ++ []) q.2) else none) ∧
  (∀ (P : Nat × Nat) (l0 : Option Value) (l1 : Option Value) (x0 : Int32) (s : List Value) (h : am_H), am_E P 36 16 [l0, l1] (.int x0 :: s) h = if x0 = 0 then am_E P 36 19 [l0, l1] s h else am_E P 36 22 [l0, l1] s h) ∧
  (∀ (P : Nat × Nat) (l0 : Option Value) (l1 : Option Value) (s : List Value) (h : am_H), am_E P 36 19 [l0, l1] s h = am_E P 36 21 [l0, l1] (.int (-2) :: s) h) ∧
  (∀ (P : Nat × Nat) (l0 : Option Value) (l1 : Option Value) (x0 : Int32) (h : am_H), am_E P 36 21 [l0, l1] [.int x0] h = some (some (.int x0), h)) ∧
  (∀ (P : Nat × Nat) (l1 : Option Value) (a0 : Nat) (s : List Value) (h : am_H), am_E P 36 22 [some (.ref a0), l1] s h = am_E P 36 23 [some (.ref a0), l1] (.ref a0 :: s) h) ∧
  (∀ (P : Nat × Nat) (l1 : Option Value) (s : List Value) (h : am_H), am_E P 36 22 [some .null, l1] s h = am_E P 36 23 [some .null, l1] (.null :: s) h) ∧
  (∀ (P : Nat × Nat) (l0 : Option Value) (l1 : Option Value) (a0 : Nat) (s : List Value) (h : am_H), am_E P 36 23 [l0, l1] (.ref a0 :: s) h = (am_g1 h a0 8 6).bind (fun v => am_E P 36 26 [l0, l1] (v :: s) h)) ∧
  (∀ (P : Nat × Nat) (l0 : Option Value) (l1 : Option Value) (x0 : Int32) (s : List Value) (h : am_H), am_E P 36 26 [l0, l1] (.int x0 :: s) h = if x0 = 0 then am_E P 36 32 [l0, l1] s h else am_E P 36 29 [l0, l1] s h) ∧
  (∀ (P : Nat × Nat) (l0 : Option Value) (l1 : Option Value) (s : List Value) (h : am_H), am_E P 36 29 [l0, l1] s h = am_E P 36 31 [l0, l1] (.int (-5) :: s) h) ∧
  (∀ (P : Nat × Nat) (l0 : Option Value) (l1 : Option Value) (x0 : Int32) (h : am_H), am_E P 36 31 [l0, l1] [.int x0] h = some (some (.int x0), h)) ∧
  (∀ (P : Nat × Nat) (l1 : Option Value) (a0 : Nat) (s : List Value) (h : am_H), am_E P 36 32 [some (.ref a0), l1] s h = am_E P 36 33 [some (.ref a0), l1] (.ref a0 :: s) h) ∧
  (∀ (P : Nat × Nat) (l1 : Option Value) (s : List Value) (h : am_H), am_E P 36 32 [some .null, l1] s h = am_E P 36 33 [some .null, l1] (.null :: s) h) ∧
  (∀ (P : Nat × Nat) (l0 : Option Value) (l1 : Option Value) (s : List Value) (h : am_H), am_E P 36 33 [l0, l1] s h = am_E P 36 34 [l0, l1] (.int 2 :: s) h) ∧
  (∀ (P : Nat × Nat) (l0 : Option Value) (x0 : Int32) (s : List Value) (h : am_H), am_E P 36 34 [l0, some (.int x0)] s h = am_E P 36 35 [l0, some (.int x0)] (.int x0 :: s) h) ∧
  (∀ (P : Nat × Nat) (l0 : Option Value) (l1 : Option Value) (a0 : Nat) (x0 : Int32) (x1 : Int32) (h : am_H), am_E P 36 35 [l0, l1] [.int x1, .int x0, .ref a0] h = if am_cls h a0 = some 8 then (am_E P 65 0 [some (.ref a0), some (.int x0), some (.int x1)] [] h).bind (fun q => am_E P 36 38 [l0, l1] (q.1.toList ++ []) q.2) else none) ∧
  (∀ (P : Nat × Nat) (l0 : Option Value) (l1 : Option Value) (x0 : Int32) (s : List Value) (h : am_H), am_E P 36 38 [l0, l1] (.int x0 :: s) h = if x0 = 0 then am_E P 36 48 [l0, l1] s h else am_E P 36 41 [l0, l1] s h) ∧
  (∀ (P : Nat × Nat) (l1 : Option Value) (a0 : Nat) (s : List Value) (h : am_H), am_E P 36 41 [some (.ref a0), l1] s h = am_E P 36 42 [some (.ref a0), l1] (.ref a0 :: s) h) ∧
  (∀ (P : Nat × Nat) (l1 : Option Value) (s : List Value) (h : am_H), am_E P 36 41 [some .null, l1] s h = am_E P 36 42 [some .null, l1] (.null :: s) h) ∧
  (∀ (P : Nat × Nat) (l0 : Option Value) (l1 : Option Value) (a0 : Nat) (h : am_H), am_E P 36 42 [l0, l1] [.ref a0] h = if am_cls h a0 = some 8 then (am_E P 66 0 [some (.ref a0), none, none, none] [] h).bind (fun q => am_E P 36 45 [l0, l1] (q.1.toList ++ []) q.2) else none) ∧
  (∀ (P : Nat × Nat) (l0 : Option Value) (l1 : Option Value) (s : List Value) (h : am_H), am_E P 36 45 [l0, l1] s h = am_E P 36 50 [l0, l1] s h) ∧
  (∀ (P : Nat × Nat) (l0 : Option Value) (l1 : Option Value) (s : List Value) (h : am_H), am_E P 36 48 [l0, l1] s h = am_E P 36 50 [l0, l1] (.int (-5) :: s) h) ∧
  (∀ (P : Nat × Nat) (l0 : Option Value) (l1 : Option Value) (x0 : Int32) (h : am_H), am_E P 36 50 [l0, l1] [.int x0] h = some (some (.int x0), h)) :=
  ⟨fun _ _ _ _ _ => er_go rfl rfl,
  fun _ _ _ _ _ => er_go rfl rfl,
  fun _ _ _ _ => er_go rfl rfl,
  fun _ _ _ _ _ _ => er_get1 rfl,
  fun _ _ _ _ _ _ _ => er_ic_le rfl,
  fun _ _ _ _ _ => er_go rfl rfl,
  fun _ _ _ _ => er_go rfl rfl,
  fun _ _ _ _ _ _ => er_get1 rfl,
  fun _ _ _ _ _ => er_go rfl rfl,
  fun _ _ _ _ _ _ => er_callV rfl rfl rfl rfl,
  fun _ _ _ _ _ _ => er_if_ne rfl,
  fun _ _ _ _ _ => er_go rfl rfl,
  fun _ _ _ _ _ => er_ret rfl rfl,
  fun _ _ _ _ _ => er_go rfl rfl,
  fun _ _ _ _ => er_go rfl rfl,
  fun _ _ _ _ _ _ => er_get1 rfl,
  fun _ _ _ _ _ _ => er_if_eq rfl,
  fun _ _ _ _ _ => er_go rfl rfl,
  fun _ _ _ _ _ => er_ret rfl rfl,
  fun _ _ _ _ _ => er_go rfl rfl,
  fun _ _ _ _ => er_go rfl rfl,
  fun _ _ _ _ _ => er_go rfl rfl,
  fun _ _ _ _ _ => er_go rfl rfl,
  fun _ _ _ _ _ _ _ => er_callV rfl rfl rfl rfl,
  fun _ _ _ _ _ _ => er_if_eq rfl,
  fun _ _ _ _ _ => er_go rfl rfl,
  fun _ _ _ _ => er_go rfl rfl,
  fun _ _ _ _ _ => er_callV rfl rfl rfl rfl,
  fun _ _ _ _ _ => er_go rfl rfl,
  fun _ _ _ _ _ => er_go rfl rfl,
  fun _ _ _ _ _ => er_ret rfl rfl⟩
/-- TwoStepOutputs.show()I -/
theorem r37 : (∀ (P : Nat × Nat) (a0 : Nat) (s : List Value) (h : am_H), am_E P 37 0 [some (.ref a0)] s h = am_E P 37 1 [some (.ref a0)] (.ref a0 :: s) h) ∧
  (∀ (P : Nat × Nat) (s : List Value) (h : am_H), am_E P 37 0 [some .null] s h = am_E P 37 1 [some .null] (.null :: s) h) ∧
  (∀ (P : Nat × Nat) (l0 : Option Value) (a0 : Nat) (s : List Value) (h : am_H), am_E P 37 1 [l0] (.ref a0 :: s) h = (am_g1 h a0 8 6).bind (fun v => am_E P 37 4 [l0] (v :: s) h)) ∧
  (∀ (P : Nat × Nat) (l0 : Option Value) (x0 : Int32) (s : List Value) (h : am_H), am_E P 37 4 [l0] (.int x0 :: s) h = if x0 = 0 then am_E P 37 12 [l0] s h else am_E P 37 7 [l0] s h) ∧
  (∀ (P : Nat × Nat) (l0 : Option Value) (s : List Value) (h : am_H), am_E P 37 7 [l0] s h = am_E P 37 9 [l0] (.int (-5) :: s) h) ∧
  (∀ (P : Nat × Nat) (l0 : Option Value) (s : List Value) (h : am_H), am_E P 37 9 [l0] s h = am_E P 37 16 [l0] s h) ∧
  (∀ (P : Nat × Nat) (a0 : Nat) (s : List Value) (h : am_H), am_E P 37 12 [some (.ref a0)] s h = am_E P 37 13 [some (.ref a0)] (.ref a0 :: s) h) ∧
  (∀ (P : Nat × Nat) (s : List Value) (h : am_H), am_E P 37 12 [some .null] s h = am_E P 37 13 [some .null] (.null :: s) h) ∧
  (∀ (P : Nat × Nat) (l0 : Option Value) (a0 : Nat) (h : am_H), am_E P 37 13 [l0] [.ref a0] h = if am_cls h a0 = some 8 then (am_E P 66 0 [some (.ref a0), none, none, none] [] h).bind (fun q => am_E P 37 16 [l0] (q.1.toList ++ []) q.2) else none) ∧
  (∀ (P : Nat × Nat) (l0 : Option Value) (x0 : Int32) (h : am_H), am_E P 37 16 [l0] [.int x0] h = some (some (.int x0), h)) :=
  ⟨fun _ _ _ _ => er_go rfl rfl,
  fun _ _ _ => er_go rfl rfl,
  fun _ _ _ _ _ => er_get1 rfl,
  fun _ _ _ _ _ => er_if_eq rfl,
  fun _ _ _ _ => er_go rfl rfl,
  fun _ _ _ _ => er_go rfl rfl,
  fun _ _ _ _ => er_go rfl rfl,
  fun _ _ _ => er_go rfl rfl,
  fun _ _ _ _ => er_callV rfl rfl rfl rfl,
  fun _ _ _ _ => er_ret rfl rfl⟩
/-- TwoStepOutputs.give(I)I -/
theorem r38 : (∀ (P : Nat × Nat) (l0 : Option Value) (l2 : Option Value) (x0 : Int32) (s : List Value) (h : am_H), am_E P 38 0 [l0, some (.int x0), l2] s h = am_E P 38 1 [l0, some (.int x0), l2] (.int x0 :: s) h) ∧
  (∀ (P : Nat × Nat) (l0 : Option Value) (l1 : Option Value) (l2 : Option Value) (x0 : Int32) (h : am_H), am_E P 38 1 [l0, l1, l2] [.int x0] h = (am_E P 56 0 [some (.int x0)] [] h).bind (fun q => am_E P 38 4 [l0, l1, l2] (q.1.toList ++ []) q.2)) ∧
  (∀ (P : Nat × Nat) (l0 : Option Value) (l1 : Option Value) (l2 : Option Value) (x0 : Int32) (s : List Value) (h : am_H), am_E P 38 4 [l0, l1, l2] (.int x0 :: s) h = if x0 = 0 then am_E P 38 15 [l0, l1, l2] s h else am_E P 38 7 [l0, l1, l2] s h) ∧
  (∀ (P : Nat × Nat) (l0 : Option Value) (l2 : Option Value) (x0 : Int32) (s : List Value) (h : am_H), am_E P 38 7 [l0, some (.int x0), l2] s h = am_E P 38 8 [l0, some (.int x0), l2] (.int x0 :: s) h) ∧
  (∀ (P : Nat × Nat) (l1 : Option Value) (l2 : Option Value) (a0 : Nat) (s : List Value) (h : am_H), am_E P 38 8 [some (.ref a0), l1, l2] s h = am_E P 38 9 [some (.ref a0), l1, l2] (.ref a0 :: s) h) ∧
  (∀ (P : Nat × Nat) (l1 : Option Value) (l2 : Option Value) (s : List Value) (h : am_H), am_E P 38 8 [some .null, l1, l2] s h = am_E P 38 9 [some .null, l1, l2] (.null :: s) h) ∧
  (∀ (P : Nat × Nat) (l0 : Option Value) (l1 : Option Value) (l2 : Option Value) (a0 : Nat) (s : List Value) (h : am_H), am_E P 38 9 [l0, l1, l2] (.ref a0 :: s) h = (am_g1 h a0 8 4).bind (fun v => am_E P 38 12 [l0, l1, l2] (v :: s) h)) ∧
  (∀ (P : Nat × Nat) (l0 : Option Value) (l1 : Option Value) (l2 : Option Value) (x0 : Int32) (x1 : Int32) (s : List Value) (h : am_H), am_E P 38 12 [l0, l1, l2] (.int x1 :: .int x0 :: s) h = if x1 < x0 then am_E P 38 18 [l0, l1, l2] s h else am_E P 38 15 [l0, l1, l2] s h) ∧
  (∀ (P : Nat × Nat) (l0 : Option Value) (l1 : Option Value) (l2 : Option Value) (s : List Value) (h : am_H), am_E P 38 15 [l0, l1, l2] s h = am_E P 38 17 [l0, l1, l2] (.int (-2) :: s) h) ∧
  (∀ (P : Nat × Nat) (l0 : Option Value) (l1 : Option Value) (l2 : Option Value) (x0 : Int32) (h : am_H), am_E P 38 17 [l0, l1, l2] [.int x0] h = some (some (.int x0), h)) ∧
  (∀ (P : Nat × Nat) (l1 : Option Value) (l2 : Option Value) (a0 : Nat) (s : List Value) (h : am_H), am_E P 38 18 [some (.ref a0), l1, l2] s h = am_E P 38 19 [some (.ref a0), l1, l2] (.ref a0 :: s) h) ∧
  (∀ (P : Nat × Nat) (l1 : Option Value) (l2 : Option Value) (s : List Value) (h : am_H), am_E P 38 18 [some .null, l1, l2] s h = am_E P 38 19 [some .null, l1, l2] (.null :: s) h) ∧
  (∀ (P : Nat × Nat) (l0 : Option Value) (l1 : Option Value) (l2 : Option Value) (a0 : Nat) (s : List Value) (h : am_H), am_E P 38 19 [l0, l1, l2] (.ref a0 :: s) h = (am_g1 h a0 8 6).bind (fun v => am_E P 38 22 [l0, l1, l2] (v :: s) h)) ∧
  (∀ (P : Nat × Nat) (l0 : Option Value) (l1 : Option Value) (l2 : Option Value) (x0 : Int32) (s : List Value) (h : am_H), am_E P 38 22 [l0, l1, l2] (.int x0 :: s) h = if x0 = 0 then am_E P 38 28 [l0, l1, l2] s h else am_E P 38 25 [l0, l1, l2] s h) ∧
  (∀ (P : Nat × Nat) (l0 : Option Value) (l1 : Option Value) (l2 : Option Value) (s : List Value) (h : am_H), am_E P 38 25 [l0, l1, l2] s h = am_E P 38 27 [l0, l1, l2] (.int (-5) :: s) h) ∧
  (∀ (P : Nat × Nat) (l0 : Option Value) (l1 : Option Value) (l2 : Option Value) (x0 : Int32) (h : am_H), am_E P 38 27 [l0, l1, l2] [.int x0] h = some (some (.int x0), h)) ∧
  (∀ (P : Nat × Nat) (l1 : Option Value) (l2 : Option Value) (a0 : Nat) (s : List Value) (h : am_H), am_E P 38 28 [some (.ref a0), l1, l2] s h = am_E P 38 29 [some (.ref a0), l1, l2] (.ref a0 :: s) h) ∧
  (∀ (P : Nat × Nat) (l1 : Option Value) (l2 : Option Value) (s : List Value) (h : am_H), am_E P 38 28 [some .null, l1, l2] s h = am_E P 38 29 [some .null, l1, l2] (.null :: s) h) ∧
  (∀ (P : Nat × Nat) (l0 : Option Value) (l2 : Option Value) (x0 : Int32) (s : List Value) (h : am_H), am_E P 38 29 [l0, some (.int x0), l2] s h = am_E P 38 30 [l0, some (.int x0), l2] (.int x0 :: s) h) ∧
  (∀ (P : Nat × Nat) (l0 : Option Value) (l1 : Option Value) (l2 : Option Value) (a0 : Nat) (x0 : Int32) (h : am_H), am_E P 38 30 [l0, l1, l2] [.int x0, .ref a0] h = if am_cls h a0 = some 8 then (am_E P 69 0 [some (.ref a0), some (.int x0), none, none, none, none] [] h).bind (fun q => am_E P 38 33 [l0, l1, l2] (q.1.toList ++ []) q.2) else none) ∧
  (∀ (P : Nat × Nat) (l0 : Option Value) (l1 : Option Value) (l2 : Option Value) (x0 : Int32) (s : List Value) (h : am_H), am_E P 38 33 [l0, l1, l2] (.int x0 :: s) h = am_E P 38 34 [l0, l1, some (.int x0)] s h) ∧
  (∀ (P : Nat × Nat) (l0 : Option Value) (l1 : Option Value) (x0 : Int32) (s : List Value) (h : am_H), am_E P 38 34 [l0, l1, some (.int x0)] s h = am_E P 38 35 [l0, l1, some (.int x0)] (.int x0 :: s) h) ∧
  (∀ (P : Nat × Nat) (l0 : Option Value) (l1 : Option Value) (l2 : Option Value) (s : List Value) (h : am_H), am_E P 38 35 [l0, l1, l2] s h = am_E P 38 37 [l0, l1, l2] (.int (-5) :: s) h) ∧
  (∀ (P : Nat × Nat) (l0 : Option Value) (l1 : Option Value) (l2 : Option Value) (x0 : Int32) (x1 : Int32) (s : List Value) (h : am_H), am_E P 38 37 [l0, l1, l2] (.int x1 :: .int x0 :: s) h = if x0 = x1 then am_E P 38 48 [l0, l1, l2] s h else am_E P 38 40 [l0, l1, l2] s h) ∧
  (∀ (P : Nat × Nat) (l1 : Option Value) (l2 : Option Value) (a0 : Nat) (s : List Value) (h : am_H), am_E P 38 40 [some (.ref a0), l1, l2] s h = am_E P 38 41 [some (.ref a0), l1, l2] (.ref a0 :: s) h) ∧
  (∀ (P : Nat × Nat) (l1 : Option Value) (l2 : Option Value) (s : List Value) (h : am_H), am_E P 38 40 [some .null, l1, l2] s h = am_E P 38 41 [some .null, l1, l2] (.null :: s) h) ∧
  (∀ (P : Nat × Nat) (l0 : Option Value) (l1 : Option Value) (l2 : Option Value) (a0 : Nat) (s : List Value) (h : am_H), am_E P 38 41 [l0, l1, l2] (.ref a0 :: s) h = (am_g1 h a0 8 3).bind (fun v => am_E P 38 44 [l0, l1, l2] (v :: s) h)) ∧
  (∀ (P : Nat × Nat) (l0 : Option Value) (l2 : Option Value) (x0 : Int32) (s : List Value) (h : am_H), am_E P 38 44 [l0, some (.int x0), l2] s h = am_E P 38 45 [l0, some (.int x0), l2] (.int x0 :: s) h) ∧
  (∀ (P : Nat × Nat) (l0 : Option Value) (l1 : Option Value) (l2 : Option Value) (a0 : Nat) (x0 : Int32) (h : am_H), am_E P 38 45 [l0, l1, l2] [.int x0, .ref a0] h = if am_cls h a0 = some 1 then (am_E P 4 0 [some (.ref a0), some (.int x0)] [] h).bind (fun q => am_E P 38 48 [l0, l1, l2] (q.1.toList ++ []) q.2) else none) ∧
  (∀ (P : Nat × Nat) (l0 : Option Value) (l1 : Option Value) (x0 : Int32) (s : List Value) (h : am_H), am_E P 38 48 [l0, l1, some (.int x0)] s h = am_E P 38 49 [l0, l1, some (.int x0)] (.int x0 :: s) h) ∧
  (∀ (P : Nat × Nat) (l0 : Option Value) (l1 : Option Value) (l2 : Option Value) (x0 : Int32) (h : am_H), am_E P 38 49 [l0, l1, l2] [.int x0] h = some (some (.int x0), h)) :=
  ⟨fun _ _ _ _ _ _ => er_go rfl rfl,
  fun _ _ _ _ _ _ => er_callS rfl rfl rfl,
  fun _ _ _ _ _ _ _ => er_if_eq rfl,
  fun _ _ _ _ _ _ => er_go rfl rfl,
  fun _ _ _ _ _ _ => er_go rfl rfl,
  fun _ _ _ _ _ => er_go rfl rfl,
  fun _ _ _ _ _ _ _ => er_get1 rfl,
  fun _ _ _ _ _ _ _ _ => er_ic_gt rfl,
  fun _ _ _ _ _ _ => er_go rfl rfl,
  fun _ _ _ _ _ _ => er_ret rfl rfl,
  fun _ _ _ _ _ _ => er_go rfl rfl,
  fun _ _ _ _ _ => er_go rfl rfl,
  fun _ _ _ _ _ _ _ => er_get1 rfl,
  fun _ _ _ _ _ _ _ => er_if_eq rfl,
  fun _ _ _ _ _ _ => er_go rfl rfl,
  fun _ _ _ _ _ _ => er_ret rfl rfl,
  fun _ _ _ _ _ _ => er_go rfl rfl,
  fun _ _ _ _ _ => er_go rfl rfl,
  fun _ _ _ _ _ _ => er_go rfl rfl,
  fun _ _ _ _ _ _ _ => er_callV rfl rfl rfl rfl,
  fun _ _ _ _ _ _ _ => er_go rfl rfl,
  fun _ _ _ _ _ _ => er_go rfl rfl,
  fun _ _ _ _ _ _ => er_go rfl rfl,
  fun _ _ _ _ _ _ _ _ => er_ic_eq rfl,
  fun _ _ _ _ _ _ => er_go rfl rfl,
  fun _ _ _ _ _ => er_go rfl rfl,
  fun _ _ _ _ _ _ _ => er_get1 rfl,
  fun _ _ _ _ _ _ => er_go rfl rfl,
  fun _ _ _ _ _ _ _ => er_callV rfl rfl rfl rfl,
  fun _ _ _ _ _ _ => er_go rfl rfl,
  fun _ _ _ _ _ _ => er_ret rfl rfl⟩
/-- TwoStepOutputs.end(I)I -/
theorem r39 : (∀ (P : Nat × Nat) (l1 : Option Value) (l2 : Option Value) (a0 : Nat) (s : List Value) (h : am_H), am_E P 39 0 [some (.ref a0), l1, l2] s h = am_E P 39 1 [some (.ref a0), l1, l2] (.ref a0 :: s) h) ∧
  (∀ (P : Nat × Nat) (l1 : Option Value) (l2 : Option Value) (s : List Value) (h : am_H), am_E P 39 0 [some .null, l1, l2] s h = am_E P 39 1 [some .null, l1, l2] (.null :: s) h) ∧
  (∀ (P : Nat × Nat) (l0 : Option Value) (l2 : Option Value) (x0 : Int32) (s : List Value) (h : am_H), am_E P 39 1 [l0, some (.int x0), l2] s h = am_E P 39 2 [l0, some (.int x0), l2] (.int x0 :: s) h) ∧
  (∀ (P : Nat × Nat) (l0 : Option Value) (l1 : Option Value) (l2 : Option Value) (a0 : Nat) (x0 : Int32) (h : am_H), am_E P 39 2 [l0, l1, l2] [.int x0, .ref a0] h = if am_cls h a0 = some 8 then (am_E P 61 0 [some (.ref a0), some (.int x0)] [] h).bind (fun q => am_E P 39 5 [l0, l1, l2] (q.1.toList ++ []) q.2) else none) ∧
  (∀ (P : Nat × Nat) (l0 : Option Value) (l1 : Option Value) (l2 : Option Value) (x0 : Int32) (s : List Value) (h : am_H), am_E P 39 5 [l0, l1, l2] (.int x0 :: s) h = am_E P 39 6 [l0, l1, some (.int x0)] s h) ∧
  (∀ (P : Nat × Nat) (l0 : Option Value) (l1 : Option Value) (x0 : Int32) (s : List Value) (h : am_H), am_E P 39 6 [l0, l1, some (.int x0)] s h = am_E P 39 7 [l0, l1, some (.int x0)] (.int x0 :: s) h) ∧
  (∀ (P : Nat × Nat) (l0 : Option Value) (l1 : Option Value) (l2 : Option Value) (x0 : Int32) (s : List Value) (h : am_H), am_E P 39 7 [l0, l1, l2] (.int x0 :: s) h = if x0 = 0 then am_E P 39 12 [l0, l1, l2] s h else am_E P 39 10 [l0, l1, l2] s h) ∧
  (∀ (P : Nat × Nat) (l0 : Option Value) (l1 : Option Value) (x0 : Int32) (s : List Value) (h : am_H), am_E P 39 10 [l0, l1, some (.int x0)] s h = am_E P 39 11 [l0, l1, some (.int x0)] (.int x0 :: s) h) ∧
  (∀ (P : Nat × Nat) (l0 : Option Value) (l1 : Option Value) (l2 : Option Value) (x0 : Int32) (h : am_H), am_E P 39 11 [l0, l1, l2] [.int x0] h = some (some (.int x0), h)) ∧
  (∀ (P : Nat × Nat) (l1 : Option Value) (l2 : Option Value) (a0 : Nat) (s : List Value) (h : am_H), am_E P 39 12 [some (.ref a0), l1, l2] s h = am_E P 39 13 [some (.ref a0), l1, l2] (.ref a0 :: s) h) ∧
  (∀ (P : Nat × Nat) (l1 : Option Value) (l2 : Option Value) (s : List Value) (h : am_H), am_E P 39 12 [some .null, l1, l2] s h = am_E P 39 13 [some .null, l1, l2] (.null :: s) h) ∧
  (∀ (P : Nat × Nat) (l0 : Option Value) (l2 : Option Value) (x0 : Int32) (s : List Value) (h : am_H), am_E P 39 13 [l0, some (.int x0), l2] s h = am_E P 39 14 [l0, some (.int x0), l2] (.int x0 :: s) h) ∧
  (∀ (P : Nat × Nat) (l0 : Option Value) (l1 : Option Value) (l2 : Option Value) (a0 : Nat) (x0 : Int32) (h : am_H), am_E P 39 14 [l0, l1, l2] [.int x0, .ref a0] h = if am_cls h a0 = some 8 then (am_E P 63 0 [some (.ref a0), some (.int x0), none, none, none, none] [] h).bind (fun q => am_E P 39 17 [l0, l1, l2] (q.1.toList ++ []) q.2) else none) ∧
  (∀ (P : Nat × Nat) (l0 : Option Value) (l1 : Option Value) (l2 : Option Value) (s : List Value) (h : am_H), am_E P 39 17 [l0, l1, l2] s h = am_E P 39 19 [l0, l1, l2] (.int (-5) :: s) h) ∧
  (∀ (P : Nat × Nat) (l0 : Option Value) (l1 : Option Value) (l2 : Option Value) (x0 : Int32) (x1 : Int32) (s : List Value) (h : am_H), am_E P 39 19 [l0, l1, l2] (.int x1 :: .int x0 :: s) h = if x0 = x1 then am_E P 39 31 [l0, l1, l2] s h else am_E P 39 22 [l0, l1, l2] s h) ∧
  (∀ (P : Nat × Nat) (l1 : Option Value) (l2 : Option Value) (a0 : Nat) (s : List Value) (h : am_H), am_E P 39 22 [some (.ref a0), l1, l2] s h = am_E P 39 23 [some (.ref a0), l1, l2] (.ref a0 :: s) h) ∧
  (∀ (P : Nat × Nat) (l1 : Option Value) (l2 : Option Value) (s : List Value) (h : am_H), am_E P 39 22 [some .null, l1, l2] s h = am_E P 39 23 [some .null, l1, l2] (.null :: s) h) ∧
  (∀ (P : Nat × Nat) (l0 : Option Value) (l1 : Option Value) (l2 : Option Value) (s : List Value) (h : am_H), am_E P 39 23 [l0, l1, l2] s h = am_E P 39 24 [l0, l1, l2] (.int 5 :: s) h) ∧
  (∀ (P : Nat × Nat) (l0 : Option Value) (l2 : Option Value) (x0 : Int32) (s : List Value) (h : am_H), am_E P 39 24 [l0, some (.int x0), l2] s h = am_E P 39 25 [l0, some (.int x0), l2] (.int x0 :: s) h) ∧
  (∀ (P : Nat × Nat) (l0 : Option Value) (l1 : Option Value) (l2 : Option Value) (a0 : Nat) (x0 : Int32) (x1 : Int32) (h : am_H), am_E P 39 25 [l0, l1, l2] [.int x1, .int x0, .ref a0] h = if am_cls h a0 = some 8 then (am_E P 65 0 [some (.ref a0), some (.int x0), some (.int x1)] [] h).bind (fun q => am_E P 39 28 [l0, l1, l2] (q.1.toList ++ []) q.2) else none) ∧
  (∀ (P : Nat × Nat) (l0 : Option Value) (l1 : Option Value) (l2 : Option Value) (x0 : Int32) (s : List Value) (h : am_H), am_E P 39 28 [l0, l1, l2] (.int x0 :: s) h = if x0 = 0 then am_E P 39 31 [l0, l1, l2] s h else am_E P 39 34 [l0, l1, l2] s h) ∧
  (∀ (P : Nat × Nat) (l0 : Option Value) (l1 : Option Value) (l2 : Option Value) (s : List Value) (h : am_H), am_E P 39 31 [l0, l1, l2] s h = am_E P 39 33 [l0, l1, l2] (.int (-5) :: s) h) ∧
  (∀ (P : Nat × Nat) (l0 : Option Value) (l1 : Option Value) (l2 : Option Value) (x0 : Int32) (h : am_H), am_E P 39 33 [l0, l1, l2] [.int x0] h = some (some (.int x0), h)) ∧
  (∀ (P : Nat × Nat) (l1 : Option Value) (l2 : Option Value) (a0 : Nat) (s : List Value) (h : am_H), am_E P 39 34 [some (.ref a0), l1, l2] s h = am_E P 39 35 [some (.ref a0), l1, l2] (.ref a0 :: s) h) ∧
  (∀ (P : Nat × Nat) (l1 : Option Value) (l2 : Option Value) (s : List Value) (h : am_H), am_E P 39 34 [some .null, l1, l2] s h = am_E P 39 35 [some .null, l1, l2] (.null :: s) h) ∧
  (∀ (P : Nat × Nat) (l0 : Option Value) (l1 : Option Value) (l2 : Option Value) (a0 : Nat) (h : am_H), am_E P 39 35 [l0, l1, l2] [.ref a0] h = if am_cls h a0 = some 8 then (am_E P 66 0 [some (.ref a0), none, none, none] [] h).bind (fun q => am_E P 39 38 [l0, l1, l2] (q.1.toList ++ []) q.2) else none) ∧
  (∀ (P : Nat × Nat) (l0 : Option Value) (l1 : Option Value) (l2 : Option Value) (x0 : Int32) (h : am_H), am_E P 39 38 [l0, l1, l2] [.int x0] h = some (some (.int x0), h)) :=
  ⟨fun _ _ _ _ _ _ => er_go rfl rfl,
  fun _ _ _ _ _ => er_go rfl rfl,
  fun _ _ _ _ _ _ => er_go rfl rfl,
  fun _ _ _ _ _ _ _ => er_callV rfl rfl rfl rfl,
  fun _ _ _ _ _ _ _ => er_go rfl rfl,
  fun _ _ _ _ _ _ => er_go rfl rfl,
  fun _ _ _ _ _ _ _ => er_if_eq rfl,
  fun _ _ _ _ _ _ => er_go rfl rfl,
  fun _ _ _ _ _ _ => er_ret rfl rfl,
  fun _ _ _ _ _ _ => er_go rfl rfl,
  fun _ _ _ _ _ => er_go rfl rfl,
  fun _ _ _ _ _ _ => er_go rfl rfl,
  fun _ _ _ _ _ _ _ => er_callV rfl rfl rfl rfl,
  fun _ _ _ _ _ _ => er_go rfl rfl,
  fun _ _ _ _ _ _ _ _ => er_ic_eq rfl,
  fun _ _ _ _ _ _ => er_go rfl rfl,
  fun _ _ _ _ _ => er_go rfl rfl,
  fun _ _ _ _ _ _ => er_go rfl rfl,
  fun _ _ _ _ _ _ => er_go rfl rfl,
  fun _ _ _ _ _ _ _ _ => er_callV rfl rfl rfl rfl,
  fun _ _ _ _ _ _ _ => er_if_ne rfl,
  fun _ _ _ _ _ _ => er_go rfl rfl,
  fun _ _ _ _ _ _ => er_ret rfl rfl,
  fun _ _ _ _ _ _ => er_go rfl rfl,
  fun _ _ _ _ _ => er_go rfl rfl,
  fun _ _ _ _ _ _ => er_callV rfl rfl rfl rfl,
  fun _ _ _ _ _ _ => er_ret rfl rfl⟩
/-- TwoStepOutputs.fails(II)I -/
theorem r40 : (∀ (P : Nat × Nat) (l1 : Option Value) (l2 : Option Value) (l3 : Option Value) (l4 : Option Value) (a0 : Nat) (s : List Value) (h : am_H), am_E P 40 0 [some (.ref a0), l1, l2, l3, l4] s h = am_E P 40 1 [some (.ref a0), l1, l2, l3, l4] (.ref a0 :: s) h) ∧
  (∀ (P : Nat × Nat) (l1 : Option Value) (l2 : Option Value) (l3 : Option Value) (l4 : Option Value) (s : List Value) (h : am_H), am_E P 40 0 [some .null, l1, l2, l3, l4] s h = am_E P 40 1 [some .null, l1, l2, l3, l4] (.null :: s) h) ∧
  (∀ (P : Nat × Nat) (l0 : Option Value) (l2 : Option Value) (l3 : Option Value) (l4 : Option Value) (x0 : Int32) (s : List Value) (h : am_H), am_E P 40 1 [l0, some (.int x0), l2, l3, l4] s h = am_E P 40 2 [l0, some (.int x0), l2, l3, l4] (.int x0 :: s) h) ∧
  (∀ (P : Nat × Nat) (l0 : Option Value) (l1 : Option Value) (l2 : Option Value) (l3 : Option Value) (l4 : Option Value) (a0 : Nat) (x0 : Int32) (h : am_H), am_E P 40 2 [l0, l1, l2, l3, l4] [.int x0, .ref a0] h = if am_cls h a0 = some 8 then (am_E P 53 0 [some (.ref a0), some (.int x0)] [] h).bind (fun q => am_E P 40 5 [l0, l1, l2, l3, l4] (q.1.toList ++ []) q.2) else none) ∧
  (∀ (P : Nat × Nat) (l0 : Option Value) (l1 : Option Value) (l2 : Option Value) (l3 : Option Value) (l4 : Option Value) (a0 : Nat) (s : List Value) (h : am_H), am_E P 40 5 [l0, l1, l2, l3, l4] (.ref a0 :: s) h = am_E P 40 6 [l0, l1, l2, some (.ref a0), l4] s h) ∧
  (∀ (P : Nat × Nat) (l0 : Option Value) (l1 : Option Value) (l2 : Option Value) (l3 : Option Value) (l4 : Option Value) (s : List Value) (h : am_H), am_E P 40 5 [l0, l1, l2, l3, l4] (.null :: s) h = am_E P 40 6 [l0, l1, l2, some .null, l4] s h) ∧
  (∀ (P : Nat × Nat) (l0 : Option Value) (l1 : Option Value) (l2 : Option Value) (l4 : Option Value) (a0 : Nat) (s : List Value) (h : am_H), am_E P 40 6 [l0, l1, l2, some (.ref a0), l4] s h = am_E P 40 7 [l0, l1, l2, some (.ref a0), l4] (.ref a0 :: s) h) ∧
  (∀ (P : Nat × Nat) (l0 : Option Value) (l1 : Option Value) (l2 : Option Value) (l4 : Option Value) (s : List Value) (h : am_H), am_E P 40 6 [l0, l1, l2, some .null, l4] s h = am_E P 40 7 [l0, l1, l2, some .null, l4] (.null :: s) h) ∧
  (∀ (P : Nat × Nat) (l0 : Option Value) (l1 : Option Value) (l2 : Option Value) (l3 : Option Value) (l4 : Option Value) (a0 : Nat) (s : List Value) (h : am_H), am_E P 40 7 [l0, l1, l2, l3, l4] (.ref a0 :: s) h = am_E P 40 12 [l0, l1, l2, l3, l4] s h) ∧
  (∀ (P : Nat × Nat) (l0 : Option Value) (l1 : Option Value) (l2 : Option Value) (l3 : Option Value) (l4 : Option Value) (s : List Value) (h : am_H), am_E P 40 7 [l0, l1, l2, l3, l4] (.null :: s) h = am_E P 40 10 [l0, l1, l2, l3, l4] s h) ∧
  (∀ (P : Nat × Nat) (l0 : Option Value) (l1 : Option Value) (l2 : Option Value) (l3 : Option Value) (l4 : Option Value) (s : List Value) (h : am_H), am_E P 40 10 [l0, l1, l2, l3, l4] s h = am_E P 40 11 [l0, l1, l2, l3, l4] (.int (-1) :: s) h) ∧
  (∀ (P : Nat × Nat) (l0 : Option Value) (l1 : Option Value) (l2 : Option Value) (l3 : Option Value) (l4 : Option Value) (x0 : Int32) (h : am_H), am_E P 40 11 [l0, l1, l2, l3, l4] [.int x0] h = some (some (.int x0), h)) ∧
  (∀ (P : Nat × Nat) (l0 : Option Value) (l1 : Option Value) (l3 : Option Value) (l4 : Option Value) (x0 : Int32) (s : List Value) (h : am_H), am_E P 40 12 [l0, l1, some (.int x0), l3, l4] s h = am_E P 40 13 [l0, l1, some (.int x0), l3, l4] (.int x0 :: s) h) ∧
  (∀ (P : Nat × Nat) (l0 : Option Value) (l1 : Option Value) (l2 : Option Value) (l3 : Option Value) (l4 : Option Value) (x0 : Int32) (s : List Value) (h : am_H), am_E P 40 13 [l0, l1, l2, l3, l4] (.int x0 :: s) h = if x0 < 0 then am_E P 40 22 [l0, l1, l2, l3, l4] s h else am_E P 40 16 [l0, l1, l2, l3, l4] s h) ∧
  (∀ (P : Nat × Nat) (l0 : Option Value) (l1 : Option Value) (l3 : Option Value) (l4 : Option Value) (x0 : Int32) (s : List Value) (h : am_H), am_E P 40 16 [l0, l1, some (.int x0), l3, l4] s h = am_E P 40 17 [l0, l1, some (.int x0), l3, l4] (.int x0 :: s) h) ∧
  (∀ (P : Nat × Nat) (l0 : Option Value) (l1 : Option Value) (l2 : Option Value) (l3 : Option Value) (l4 : Option Value) (s : List Value) (h : am_H), am_E P 40 17 [l0, l1, l2, l3, l4] s h = am_E P 40 19 [l0, l1, l2, l3, l4] (.int 100 :: s) h) ∧
  (∀ (P : Nat × Nat) (l0 : Option Value) (l1 : Option Value) (l2 : Option Value) (l3 : Option Value) (l4 : Option Value) (x0 : Int32) (x1 : Int32) (s : List Value) (h : am_H), am_E P 40 19 [l0, l1, l2, l3, l4] (.int x1 :: .int x0 :: s) h = if x0 ≤ x1 then am_E P 40 25 [l0, l1, l2, l3, l4] s h else am_E P 40 22 [l0, l1, l2, l3, l4] s h) ∧
  (∀ (P : Nat × Nat) (l0 : Option Value) (l1 : Option Value) (l2 : Option Value) (l3 : Option Value) (l4 : Option Value) (s : List Value) (h : am_H), am_E P 40 22 [l0, l1, l2, l3, l4] s h = am_E P 40 24 [l0, l1, l2, l3, l4] (.int (-2) :: s) h) ∧
  (∀ (P : Nat × Nat) (l0 : Option Value) (l1 : Option Value) (l2 : Option Value) (l3 : Option Value) (l4 : Option Value) (x0 : Int32) (h : am_H), am_E P 40 24 [l0, l1, l2, l3, l4] [.int x0] h = some (some (.int x0), h)) ∧
  (∀ (P : Nat × Nat) (l0 : Option Value) (l1 : Option Value) (l2 : Option Value) (l4 : Option Value) (a0 : Nat) (s : List Value) (h : am_H), am_E P 40 25 [l0, l1, l2, some (.ref a0), l4] s h = am_E P 40 26 [l0, l1, l2, some (.ref a0), l4] (.ref a0 :: s) h) ∧
  (∀ (P : Nat × Nat) (l0 : Option Value) (l1 : Option Value) (l2 : Option Value) (l4 : Option Value) (s : List Value) (h : am_H), am_E P 40 25 [l0, l1, l2, some .null, l4] s h = am_E P 40 26 [l0, l1, l2, some .null, l4] (.null :: s) h) ∧
  (∀ (P : Nat × Nat) (l0 : Option Value) (l1 : Option Value) (l2 : Option Value) (l3 : Option Value) (l4 : Option Value) (a0 : Nat) (s : List Value) (h : am_H), am_E P 40 26 [l0, l1, l2, l3, l4] (.ref a0 :: s) h = (am_g1 h a0 4 7).bind (fun v => am_E P 40 29 [l0, l1, l2, l3, l4] (v :: s) h)) ∧
  (∀ (P : Nat × Nat) (l0 : Option Value) (l1 : Option Value) (l2 : Option Value) (l3 : Option Value) (l4 : Option Value) (x0 : Int32) (s : List Value) (h : am_H), am_E P 40 29 [l0, l1, l2, l3, l4] (.int x0 :: s) h = am_E P 40 31 [l0, l1, l2, l3, some (.int x0)] s h) ∧
  (∀ (P : Nat × Nat) (l0 : Option Value) (l1 : Option Value) (l2 : Option Value) (l4 : Option Value) (a0 : Nat) (s : List Value) (h : am_H), am_E P 40 31 [l0, l1, l2, some (.ref a0), l4] s h = am_E P 40 32 [l0, l1, l2, some (.ref a0), l4] (.ref a0 :: s) h) ∧
  (∀ (P : Nat × Nat) (l0 : Option Value) (l1 : Option Value) (l2 : Option Value) (l4 : Option Value) (s : List Value) (h : am_H), am_E P 40 31 [l0, l1, l2, some .null, l4] s h = am_E P 40 32 [l0, l1, l2, some .null, l4] (.null :: s) h) ∧
  (∀ (P : Nat × Nat) (l0 : Option Value) (l1 : Option Value) (l3 : Option Value) (l4 : Option Value) (x0 : Int32) (s : List Value) (h : am_H), am_E P 40 32 [l0, l1, some (.int x0), l3, l4] s h = am_E P 40 33 [l0, l1, some (.int x0), l3, l4] (.int x0 :: s) h) ∧
  (∀ (P : Nat × Nat) (l0 : Option Value) (l1 : Option Value) (l2 : Option Value) (l3 : Option Value) (l4 : Option Value) (a0 : Nat) (x0 : Int32) (s : List Value) (h : am_H), am_E P 40 33 [l0, l1, l2, l3, l4] (.int x0 :: .ref a0 :: s) h = (am_p1 h a0 4 7 (.int x0)).bind (fun h => am_E P 40 36 [l0, l1, l2, l3, l4] s h)) ∧
  (∀ (P : Nat × Nat) (l0 : Option Value) (l1 : Option Value) (l2 : Option Value) (l3 : Option Value) (x0 : Int32) (s : List Value) (h : am_H), am_E P 40 36 [l0, l1, l2, l3, some (.int x0)] s h = am_E P 40 38 [l0, l1, l2, l3, some (.int x0)] (.int x0 :: s) h) ∧
  (∀ (P : Nat × Nat) (l0 : Option Value) (l1 : Option Value) (l2 : Option Value) (l3 : Option Value) (l4 : Option Value) (x0 : Int32) (h : am_H), am_E P 40 38 [l0, l1, l2, l3, l4] [.int x0] h = some (some (.int x0), h)) :=
  ⟨fun _ _ _ _ _ _ _ _ => er_go rfl rfl,
  fun _ _ _ _ _ _ _ => er_go rfl rfl,
  fun _ _ _ _ _ _ _ _ => er_go rfl rfl,
  fun _ _ _ _ _ _ _ _ _ => er_callV rfl rfl rfl rfl,
  fun _ _ _ _ _ _ _ _ _ => er_go rfl rfl,
  fun _ _ _ _ _ _ _ _ => er_go rfl rfl,
  fun _ _ _ _ _ _ _ _ => er_go rfl rfl,
  fun _ _ _ _ _ _ _ => er_go rfl rfl,
  fun _ _ _ _ _ _ _ _ _ => er_go rfl rfl,
  fun _ _ _ _ _ _ _ _ => er_go rfl rfl,
  fun _ _ _ _ _ _ _ _ => er_go rfl rfl,
  fun _ _ _ _ _ _ _ _ => er_ret rfl rfl,
  fun _ _ _ _ _ _ _ _ => er_go rfl rfl,
  fun _ _ _ _ _ _ _ _ _ => er_if_lt rfl,
  fun _ _ _ _ _ _ _ _ => er_go rfl rfl,
  fun _ _ _ _ _ _ _ _ => er_go rfl rfl,
  fun _ _ _ _ _ _ _ _ _ _ => er_ic_le rfl,
  fun _ _ _ _ _ _ _ _ => er_go rfl rfl,
  fun _ _ _ _ _ _ _ _ => er_ret rfl rfl,
  fun _ _ _ _ _ _ _ _ => er_go rfl rfl,
  fun _ _ _ _ _ _ _ => er_go rfl rfl,
  fun _ _ _ _ _ _ _ _ _ => er_get1 rfl,
  fun _ _ _ _ _ _ _ _ _ => er_go rfl rfl,
  fun _ _ _ _ _ _ _ _ => er_go rfl rfl,
  fun _ _ _ _ _ _ _ => er_go rfl rfl,
  fun _ _ _ _ _ _ _ _ => er_go rfl rfl,
  fun _ _ _ _ _ _ _ _ _ _ => er_put1 rfl rfl,
  fun _ _ _ _ _ _ _ _ => er_go rfl rfl,
  fun _ _ _ _ _ _ _ _ => er_ret rfl rfl⟩
/-- TwoStepOutputs.power(I)I -/
theorem r41 : (∀ (P : Nat × Nat) (l0 : Option Value) (x0 : Int32) (s : List Value) (h : am_H), am_E P 41 0 [l0, some (.int x0)] s h = am_E P 41 1 [l0, some (.int x0)] (.int x0 :: s) h) ∧
  (∀ (P : Nat × Nat) (l0 : Option Value) (l1 : Option Value) (s : List Value) (h : am_H), am_E P 41 1 [l0, l1] s h = am_E P 41 3 [l0, l1] (.int (-6) :: s) h) ∧
  (∀ (P : Nat × Nat) (l0 : Option Value) (l1 : Option Value) (x0 : Int32) (x1 : Int32) (s : List Value) (h : am_H), am_E P 41 3 [l0, l1] (.int x1 :: .int x0 :: s) h = if x0 = x1 then am_E P 41 21 [l0, l1] s h else am_E P 41 6 [l0, l1] s h) ∧
  (∀ (P : Nat × Nat) (l0 : Option Value) (x0 : Int32) (s : List Value) (h : am_H), am_E P 41 6 [l0, some (.int x0)] s h = am_E P 41 7 [l0, some (.int x0)] (.int x0 :: s) h) ∧
  (∀ (P : Nat × Nat) (l0 : Option Value) (l1 : Option Value) (s : List Value) (h : am_H), am_E P 41 7 [l0, l1] s h = am_E P 41 8 [l0, l1] (.int 1 :: s) h) ∧
  (∀ (P : Nat × Nat) (l0 : Option Value) (l1 : Option Value) (x0 : Int32) (x1 : Int32) (s : List Value) (h : am_H), am_E P 41 8 [l0, l1] (.int x1 :: .int x0 :: s) h = if x0 < x1 then am_E P 41 18 [l0, l1] s h else am_E P 41 11 [l0, l1] s h) ∧
  (∀ (P : Nat × Nat) (l0 : Option Value) (x0 : Int32) (s : List Value) (h : am_H), am_E P 41 11 [l0, some (.int x0)] s h = am_E P 41 12 [l0, some (.int x0)] (.int x0 :: s) h) ∧
  (∀ (P : Nat × Nat) (l0 : Option Value) (l1 : Option Value) (s : List Value) (h : am_H), am_E P 41 12 [l0, l1] s h = am_E P 41 15 [l0, l1] (.int 5000 :: s) h) ∧
  (∀ (P : Nat × Nat) (l0 : Option Value) (l1 : Option Value) (x0 : Int32) (x1 : Int32) (s : List Value) (h : am_H), am_E P 41 15 [l0, l1] (.int x1 :: .int x0 :: s) h = if x0 ≤ x1 then am_E P 41 21 [l0, l1] s h else am_E P 41 18 [l0, l1] s h) ∧
  (∀ (P : Nat × Nat) (l0 : Option Value) (l1 : Option Value) (s : List Value) (h : am_H), am_E P 41 18 [l0, l1] s h = am_E P 41 20 [l0, l1] (.int (-2) :: s) h) ∧
  (∀ (P : Nat × Nat) (l0 : Option Value) (l1 : Option Value) (x0 : Int32) (h : am_H), am_E P 41 20 [l0, l1] [.int x0] h = some (some (.int x0), h)) ∧
  (∀ (P : Nat × Nat) (l1 : Option Value) (a0 : Nat) (s : List Value) (h : am_H), am_E P 41 21 [some (.ref a0), l1] s h = am_E P 41 22 [some (.ref a0), l1] (.ref a0 :: s) h) ∧
  (∀ (P : Nat × Nat) (l1 : Option Value) (s : List Value) (h : am_H), am_E P 41 21 [some .null, l1] s h = am_E P 41 22 [some .null, l1] (.null :: s) h) ∧
  (∀ (P : Nat × Nat) (l0 : Option Value) (l1 : Option Value) (a0 : Nat) (s : List Value) (h : am_H), am_E P 41 22 [l0, l1] (.ref a0 :: s) h = (am_g1 h a0 8 6).bind (fun v => am_E P 41 25 [l0, l1] (v :: s) h)) ∧
  (∀ (P : Nat × Nat) (l0 : Option Value) (l1 : Option Value) (x0 : Int32) (s : List Value) (h : am_H), am_E P 41 25 [l0, l1] (.int x0 :: s) h = if x0 = 0 then am_E P 41 31 [l0, l1] s h else am_E P 41 28 [l0, l1] s h) ∧
  (∀ (P : Nat × Nat) (l0 : Option Value) (l1 : Option Value) (s : List Value) (h : am_H), am_E P 41 28 [l0, l1] s h = am_E P 41 30 [l0, l1] (.int (-5) :: s) h) ∧
  (∀ (P : Nat × Nat) (l0 : Option Value) (l1 : Option Value) (x0 : Int32) (h : am_H), am_E P 41 30 [l0, l1] [.int x0] h = some (some (.int x0), h)) ∧
  (∀ (P : Nat × Nat) (l1 : Option Value) (a0 : Nat) (s : List Value) (h : am_H), am_E P 41 31 [some (.ref a0), l1] s h = am_E P 41 32 [some (.ref a0), l1] (.ref a0 :: s) h) ∧
  (∀ (P : Nat × Nat) (l1 : Option Value) (s : List Value) (h : am_H), am_E P 41 31 [some .null, l1] s h = am_E P 41 32 [some .null, l1] (.null :: s) h) ∧
  (∀ (P : Nat × Nat) (l0 : Option Value) (x0 : Int32) (s : List Value) (h : am_H), am_E P 41 32 [l0, some (.int x0)] s h = am_E P 41 33 [l0, some (.int x0)] (.int x0 :: s) h) ∧
  (∀ (P : Nat × Nat) (l0 : Option Value) (l1 : Option Value) (s : List Value) (h : am_H), am_E P 41 33 [l0, l1] s h = am_E P 41 35 [l0, l1] (.int (-6) :: s) h) ∧
  (∀ (P : Nat × Nat) (l0 : Option Value) (l1 : Option Value) (x0 : Int32) (x1 : Int32) (s : List Value) (h : am_H), am_E P 41 35 [l0, l1] (.int x1 :: .int x0 :: s) h = if x0 = x1 then am_E P 41 38 [l0, l1] s h else am_E P 41 42 [l0, l1] s h) ∧
  (∀ (P : Nat × Nat) (l0 : Option Value) (l1 : Option Value) (s : List Value) (h : am_H), am_E P 41 38 [l0, l1] s h = am_E P 41 39 [l0, l1] (.int 0 :: s) h) ∧
  (∀ (P : Nat × Nat) (l0 : Option Value) (l1 : Option Value) (s : List Value) (h : am_H), am_E P 41 39 [l0, l1] s h = am_E P 41 43 [l0, l1] s h) ∧
  (∀ (P : Nat × Nat) (l0 : Option Value) (x0 : Int32) (s : List Value) (h : am_H), am_E P 41 42 [l0, some (.int x0)] s h = am_E P 41 43 [l0, some (.int x0)] (.int x0 :: s) h) ∧
  (∀ (P : Nat × Nat) (l0 : Option Value) (l1 : Option Value) (a0 : Nat) (x0 : Int32) (s : List Value) (h : am_H), am_E P 41 43 [l0, l1] (.int x0 :: .ref a0 :: s) h = (am_p1 h a0 8 7 (.int x0)).bind (fun h => am_E P 41 46 [l0, l1] s h)) ∧
  (∀ (P : Nat × Nat) (l0 : Option Value) (l1 : Option Value) (s : List Value) (h : am_H), am_E P 41 46 [l0, l1] s h = am_E P 41 47 [l0, l1] (.int 1 :: s) h) ∧
  (∀ (P : Nat × Nat) (l0 : Option Value) (l1 : Option Value) (x0 : Int32) (h : am_H), am_E P 41 47 [l0, l1] [.int x0] h = some (some (.int x0), h)) :=
  ⟨fun _ _ _ _ _ => er_go rfl rfl,
  fun _ _ _ _ _ => er_go rfl rfl,
  fun _ _ _ _ _ _ _ => er_ic_eq rfl,
  fun _ _ _ _ _ => er_go rfl rfl,
  fun _ _ _ _ _ => er_go rfl rfl,
  fun _ _ _ _ _ _ _ => er_ic_lt rfl,
  fun _ _ _ _ _ => er_go rfl rfl,
  fun _ _ _ _ _ => er_go rfl rfl,
  fun _ _ _ _ _ _ _ => er_ic_le rfl,
  fun _ _ _ _ _ => er_go rfl rfl,
  fun _ _ _ _ _ => er_ret rfl rfl,
  fun _ _ _ _ _ => er_go rfl rfl,
  fun _ _ _ _ => er_go rfl rfl,
  fun _ _ _ _ _ _ => er_get1 rfl,
  fun _ _ _ _ _ _ => er_if_eq rfl,
  fun _ _ _ _ _ => er_go rfl rfl,
  fun _ _ _ _ _ => er_ret rfl rfl,
  fun _ _ _ _ _ => er_go rfl rfl,
  fun _ _ _ _ => er_go rfl rfl,
  fun _ _ _ _ _ => er_go rfl rfl,
  fun _ _ _ _ _ => er_go rfl rfl,
  fun _ _ _ _ _ _ _ => er_ic_ne rfl,
  fun _ _ _ _ _ => er_go rfl rfl,
  fun _ _ _ _ _ => er_go rfl rfl,
  fun _ _ _ _ _ => er_go rfl rfl,
  fun _ _ _ _ _ _ _ => er_put1 rfl rfl,
  fun _ _ _ _ _ => er_go rfl rfl,
  fun _ _ _ _ _ => er_ret rfl rfl⟩
/-- TwoStepOutputs.open()I -/
theorem r42 : (∀ (P : Nat × Nat) (l1 : Option Value) (a0 : Nat) (s : List Value) (h : am_H), am_E P 42 0 [some (.ref a0), l1] s h = am_E P 42 1 [some (.ref a0), l1] (.ref a0 :: s) h) ∧
  (∀ (P : Nat × Nat) (l1 : Option Value) (s : List Value) (h : am_H), am_E P 42 0 [some .null, l1] s h = am_E P 42 1 [some .null, l1] (.null :: s) h) ∧
  (∀ (P : Nat × Nat) (l0 : Option Value) (l1 : Option Value) (a0 : Nat) (s : List Value) (h : am_H), am_E P 42 1 [l0, l1] (.ref a0 :: s) h = (am_g1 h a0 8 2).bind (fun v => am_E P 42 4 [l0, l1] (v :: s) h)) ∧
  (∀ (P : Nat × Nat) (l0 : Option Value) (l1 : Option Value) (a0 : Nat) (h : am_H), am_E P 42 4 [l0, l1] [.ref a0] h = if am_cls h a0 = some 2 then (am_E P 24 0 [some (.ref a0)] [] h).bind (fun q => am_E P 42 7 [l0, l1] (q.1.toList ++ []) q.2) else none) ∧
  (∀ (P : Nat × Nat) (l0 : Option Value) (l1 : Option Value) (x0 : Int32) (s : List Value) (h : am_H), am_E P 42 7 [l0, l1] (.int x0 :: s) h = am_E P 42 8 [l0, some (.int x0)] s h) ∧
  (∀ (P : Nat × Nat) (l1 : Option Value) (a0 : Nat) (s : List Value) (h : am_H), am_E P 42 8 [some (.ref a0), l1] s h = am_E P 42 9 [some (.ref a0), l1] (.ref a0 :: s) h) ∧
  (∀ (P : Nat × Nat) (l1 : Option Value) (s : List Value) (h : am_H), am_E P 42 8 [some .null, l1] s h = am_E P 42 9 [some .null, l1] (.null :: s) h) ∧
  (∀ (P : Nat × Nat) (l0 : Option Value) (l1 : Option Value) (s : List Value) (h : am_H), am_E P 42 9 [l0, l1] s h = am_E P 42 10 [l0, l1] (.int 0 :: s) h) ∧
  (∀ (P : Nat × Nat) (l0 : Option Value) (l1 : Option Value) (a0 : Nat) (x0 : Int32) (s : List Value) (h : am_H), am_E P 42 10 [l0, l1] (.int x0 :: .ref a0 :: s) h = if x0 = 0 ∨ x0 = 1 then (am_p1 h a0 8 6 (.int x0)).bind (fun h => am_E P 42 13 [l0, l1] s h) else none) ∧
  (∀ (P : Nat × Nat) (l1 : Option Value) (a0 : Nat) (s : List Value) (h : am_H), am_E P 42 13 [some (.ref a0), l1] s h = am_E P 42 14 [some (.ref a0), l1] (.ref a0 :: s) h) ∧
  (∀ (P : Nat × Nat) (l1 : Option Value) (s : List Value) (h : am_H), am_E P 42 13 [some .null, l1] s h = am_E P 42 14 [some .null, l1] (.null :: s) h) ∧
  (∀ (P : Nat × Nat) (l0 : Option Value) (l1 : Option Value) (s : List Value) (h : am_H), am_E P 42 14 [l0, l1] s h = am_E P 42 15 [l0, l1] (.int 0 :: s) h) ∧
  (∀ (P : Nat × Nat) (l0 : Option Value) (l1 : Option Value) (a0 : Nat) (x0 : Int32) (s : List Value) (h : am_H), am_E P 42 15 [l0, l1] (.int x0 :: .ref a0 :: s) h = (am_p1 h a0 8 7 (.int x0)).bind (fun h => am_E P 42 18 [l0, l1] s h)) ∧
  (∀ (P : Nat × Nat) (l1 : Option Value) (a0 : Nat) (s : List Value) (h : am_H), am_E P 42 18 [some (.ref a0), l1] s h = am_E P 42 19 [some (.ref a0), l1] (.ref a0 :: s) h) ∧
  (∀ (P : Nat × Nat) (l1 : Option Value) (s : List Value) (h : am_H), am_E P 42 18 [some .null, l1] s h = am_E P 42 19 [some .null, l1] (.null :: s) h) ∧
  (∀ (P : Nat × Nat) (l0 : Option Value) (l1 : Option Value) (a0 : Nat) (h : am_H), am_E P 42 19 [l0, l1] [.ref a0] h = if am_cls h a0 = some 8 then (am_E P 59 0 [some (.ref a0), none] [] h).bind (fun q => am_E P 42 22 [l0, l1] (q.1.toList ++ []) q.2) else none) ∧
  (∀ (P : Nat × Nat) (l1 : Option Value) (a0 : Nat) (s : List Value) (h : am_H), am_E P 42 22 [some (.ref a0), l1] s h = am_E P 42 23 [some (.ref a0), l1] (.ref a0 :: s) h) ∧
  (∀ (P : Nat × Nat) (l1 : Option Value) (s : List Value) (h : am_H), am_E P 42 22 [some .null, l1] s h = am_E P 42 23 [some .null, l1] (.null :: s) h) ∧
  (∀ (P : Nat × Nat) (l0 : Option Value) (l1 : Option Value) (a0 : Nat) (s : List Value) (h : am_H), am_E P 42 23 [l0, l1] (.ref a0 :: s) h = (am_g1 h a0 8 3).bind (fun v => am_E P 42 26 [l0, l1] (v :: s) h)) ∧
  (∀ (P : Nat × Nat) (l1 : Option Value) (a0 : Nat) (s : List Value) (h : am_H), am_E P 42 26 [some (.ref a0), l1] s h = am_E P 42 27 [some (.ref a0), l1] (.ref a0 :: s) h) ∧
  (∀ (P : Nat × Nat) (l1 : Option Value) (s : List Value) (h : am_H), am_E P 42 26 [some .null, l1] s h = am_E P 42 27 [some .null, l1] (.null :: s) h) ∧
  (∀ (P : Nat × Nat) (l0 : Option Value) (l1 : Option Value) (a0 : Nat) (s : List Value) (h : am_H), am_E P 42 27 [l0, l1] (.ref a0 :: s) h = (am_g1 h a0 8 4).bind (fun v => am_E P 42 30 [l0, l1] (v :: s) h)) ∧
  (∀ (P : Nat × Nat) (l0 : Option Value) (l1 : Option Value) (s : List Value) (h : am_H), am_E P 42 30 [l0, l1] s h = am_E P 42 31 [l0, l1] (.int 1 :: s) h) ∧
  (∀ (P : Nat × Nat) (l0 : Option Value) (l1 : Option Value) (x0 : Int32) (x1 : Int32) (s : List Value) (h : am_H), am_E P 42 31 [l0, l1] (.int x1 :: .int x0 :: s) h = am_E P 42 32 [l0, l1] (.int (x0 + x1) :: s) h) ∧
  (∀ (P : Nat × Nat) (l0 : Option Value) (l1 : Option Value) (a0 : Nat) (x0 : Int32) (h : am_H), am_E P 42 32 [l0, l1] [.int x0, .ref a0] h = if am_cls h a0 = some 1 then (am_E P 4 0 [some (.ref a0), some (.int x0)] [] h).bind (fun q => am_E P 42 35 [l0, l1] (q.1.toList ++ []) q.2) else none) ∧
  (∀ (P : Nat × Nat) (l1 : Option Value) (a0 : Nat) (s : List Value) (h : am_H), am_E P 42 35 [some (.ref a0), l1] s h = am_E P 42 36 [some (.ref a0), l1] (.ref a0 :: s) h) ∧
  (∀ (P : Nat × Nat) (l1 : Option Value) (s : List Value) (h : am_H), am_E P 42 35 [some .null, l1] s h = am_E P 42 36 [some .null, l1] (.null :: s) h) ∧
  (∀ (P : Nat × Nat) (l1 : Option Value) (a0 : Nat) (s : List Value) (h : am_H), am_E P 42 36 [some (.ref a0), l1] s h = am_E P 42 37 [some (.ref a0), l1] (.ref a0 :: s) h) ∧
  (∀ (P : Nat × Nat) (l1 : Option Value) (s : List Value) (h : am_H), am_E P 42 36 [some .null, l1] s h = am_E P 42 37 [some .null, l1] (.null :: s) h) ∧
  (∀ (P : Nat × Nat) (l0 : Option Value) (l1 : Option Value) (a0 : Nat) (s : List Value) (h : am_H), am_E P 42 37 [l0, l1] (.ref a0 :: s) h = (am_g1 h a0 8 4).bind (fun v => am_E P 42 40 [l0, l1] (v :: s) h)) ∧
  (∀ (P : Nat × Nat) (l0 : Option Value) (l1 : Option Value) (s : List Value) (h : am_H), am_E P 42 40 [l0, l1] s h = am_E P 42 41 [l0, l1] (.int 1 :: s) h) ∧
  (∀ (P : Nat × Nat) (l0 : Option Value) (l1 : Option Value) (x0 : Int32) (x1 : Int32) (s : List Value) (h : am_H), am_E P 42 41 [l0, l1] (.int x1 :: .int x0 :: s) h = am_E P 42 42 [l0, l1] (.int (x0 + x1) :: s) h) ∧
  (∀ (P : Nat × Nat) (l0 : Option Value) (l1 : Option Value) (a0 : Nat) (x0 : Int32) (h : am_H), am_E P 42 42 [l0, l1] [.int x0, .ref a0] h = if am_cls h a0 = some 8 then (am_E P 69 0 [some (.ref a0), some (.int x0), none, none, none, none] [] h).bind (fun q => am_E P 42 45 [l0, l1] (q.1.toList ++ []) q.2) else none) ∧
  (∀ (P : Nat × Nat) (l0 : Option Value) (l1 : Option Value) (x0 : Int32) (s : List Value) (h : am_H), am_E P 42 45 [l0, l1] (.int x0 :: s) h = am_E P 42 46 [l0, l1] s h) ∧
  (∀ (P : Nat × Nat) (l1 : Option Value) (a0 : Nat) (s : List Value) (h : am_H), am_E P 42 46 [some (.ref a0), l1] s h = am_E P 42 47 [some (.ref a0), l1] (.ref a0 :: s) h) ∧
  (∀ (P : Nat × Nat) (l1 : Option Value) (s : List Value) (h : am_H), am_E P 42 46 [some .null, l1] s h = am_E P 42 47 [some .null, l1] (.null :: s) h) ∧
  (∀ (P : Nat × Nat) (l0 : Option Value) (l1 : Option Value) (a0 : Nat) (h : am_H), am_E P 42 47 [l0, l1] [.ref a0] h = if am_cls h a0 = some 8 then (am_E P 66 0 [some (.ref a0), none, none, none] [] h).bind (fun q => am_E P 42 50 [l0, l1] (q.1.toList ++ []) q.2) else none) ∧
  (∀ (P : Nat × Nat) (l0 : Option Value) (l1 : Option Value) (x0 : Int32) (s : List Value) (h : am_H), am_E P 42 50 [l0, l1] (.int x0 :: s) h = am_E P 42 51 [l0, l1] s h) ∧
  (∀ (P : Nat × Nat) (l1 : Option Value) (a0 : Nat) (s : List Value) (h : am_H), am_E P 42 51 [some (.ref a0), l1] s h = am_E P 42 52 [some (.ref a0), l1] (.ref a0 :: s) h) ∧
  (∀ (P : Nat × Nat) (l1 : Option Value) (s : List Value) (h : am_H), am_E P 42 51 [some .null, l1] s h = am_E P 42 52 [some .null, l1] (.null :: s) h) ∧
  (∀ (P : Nat × Nat) (l0 : Option Value) (l1 : Option Value) (a0 : Nat) (s : List Value) (h : am_H), am_E P 42 52 [l0, l1] (.ref a0 :: s) h = (am_g1 h a0 8 2).bind (fun v => am_E P 42 55 [l0, l1] (v :: s) h)) ∧
  (∀ (P : Nat × Nat) (l0 : Option Value) (l1 : Option Value) (a0 : Nat) (h : am_H), am_E P 42 55 [l0, l1] [.ref a0] h = if am_cls h a0 = some 2 then (am_E P 24 0 [some (.ref a0)] [] h).bind (fun q => am_E P 42 58 [l0, l1] (q.1.toList ++ []) q.2) else none) ∧
  (∀ (P : Nat × Nat) (l0 : Option Value) (x0 : Int32) (s : List Value) (h : am_H), am_E P 42 58 [l0, some (.int x0)] s h = am_E P 42 59 [l0, some (.int x0)] (.int x0 :: s) h) ∧
  (∀ (P : Nat × Nat) (l0 : Option Value) (l1 : Option Value) (x0 : Int32) (x1 : Int32) (s : List Value) (h : am_H), am_E P 42 59 [l0, l1] (.int x1 :: .int x0 :: s) h = am_E P 42 60 [l0, l1] (.int (x0 - x1) :: s) h) ∧
  (∀ (P : Nat × Nat) (l0 : Option Value) (l1 : Option Value) (x0 : Int32) (h : am_H), am_E P 42 60 [l0, l1] [.int x0] h = some (some (.int x0), h)) :=
  ⟨fun _ _ _ _ _ => er_go rfl rfl,
  fun _ _ _ _ => er_go rfl rfl,
  fun _ _ _ _ _ _ => er_get1 rfl,
  fun _ _ _ _ _ => er_callV rfl rfl rfl rfl,
  fun _ _ _ _ _ _ => er_go rfl rfl,
  fun _ _ _ _ _ => er_go rfl rfl,
  fun _ _ _ _ => er_go rfl rfl,
  fun _ _ _ _ _ => er_go rfl rfl,
  fun _ _ _ _ _ _ _ => er_putZ rfl rfl,
  fun _ _ _ _ _ => er_go rfl rfl,
  fun _ _ _ _ => er_go rfl rfl,
  fun _ _ _ _ _ => er_go rfl rfl,
  fun _ _ _ _ _ _ _ => er_put1 rfl rfl,
  fun _ _ _ _ _ => er_go rfl rfl,
  fun _ _ _ _ => er_go rfl rfl,
  fun _ _ _ _ _ => er_callV rfl rfl rfl rfl,
  fun _ _ _ _ _ => er_go rfl rfl,
  fun _ _ _ _ => er_go rfl rfl,
  fun _ _ _ _ _ _ => er_get1 rfl,
  fun _ _ _ _ _ => er_go rfl rfl,
  fun _ _ _ _ => er_go rfl rfl,
  fun _ _ _ _ _ _ => er_get1 rfl,
  fun _ _ _ _ _ => er_go rfl rfl,
  fun _ _ _ _ _ _ _ => er_go rfl rfl,
  fun _ _ _ _ _ _ => er_callV rfl rfl rfl rfl,
  fun _ _ _ _ _ => er_go rfl rfl,
  fun _ _ _ _ => er_go rfl rfl,
  fun _ _ _ _ _ => er_go rfl rfl,
  fun _ _ _ _ => er_go rfl rfl,
  fun _ _ _ _ _ _ => er_get1 rfl,
  fun _ _ _ _ _ => er_go rfl rfl,
  fun _ _ _ _ _ _ _ => er_go rfl rfl,
  fun _ _ _ _ _ _ => er_callV rfl rfl rfl rfl,
  fun _ _ _ _ _ _ => er_go rfl rfl,
  fun _ _ _ _ _ => er_go rfl rfl,
  fun _ _ _ _ => er_go rfl rfl,
  fun _ _ _ _ _ => er_callV rfl rfl rfl rfl,
  fun _ _ _ _ _ _ => er_go rfl rfl,
  fun _ _ _ _ _ => er_go rfl rfl,
  fun _ _ _ _ => er_go rfl rfl,
  fun _ _ _ _ _ _ => er_get1 rfl,
  fun _ _ _ _ _ => er_callV rfl rfl rfl rfl,
  fun _ _ _ _ _ => er_go rfl rfl,
  fun _ _ _ _ _ _ _ => er_go rfl rfl,
  fun _ _ _ _ _ => er_ret rfl rfl⟩
/-- TwoStepOutputs.about(II)I -/
theorem r43 : (∀ (P : Nat × Nat) (l1 : Option Value) (l2 : Option Value) (l3 : Option Value) (a0 : Nat) (s : List Value) (h : am_H), am_E P 43 0 [some (.ref a0), l1, l2, l3] s h = am_E P 43 1 [some (.ref a0), l1, l2, l3] (.ref a0 :: s) h) ∧
  (∀ (P : Nat × Nat) (l1 : Option Value) (l2 : Option Value) (l3 : Option Value) (s : List Value) (h : am_H), am_E P 43 0 [some .null, l1, l2, l3] s h = am_E P 43 1 [some .null, l1, l2, l3] (.null :: s) h) ∧
  (∀ (P : Nat × Nat) (l0 : Option Value) (l2 : Option Value) (l3 : Option Value) (x0 : Int32) (s : List Value) (h : am_H), am_E P 43 1 [l0, some (.int x0), l2, l3] s h = am_E P 43 2 [l0, some (.int x0), l2, l3] (.int x0 :: s) h) ∧
  (∀ (P : Nat × Nat) (l0 : Option Value) (l1 : Option Value) (l2 : Option Value) (l3 : Option Value) (a0 : Nat) (x0 : Int32) (h : am_H), am_E P 43 2 [l0, l1, l2, l3] [.int x0, .ref a0] h = if am_cls h a0 = some 8 then (am_E P 53 0 [some (.ref a0), some (.int x0)] [] h).bind (fun q => am_E P 43 5 [l0, l1, l2, l3] (q.1.toList ++ []) q.2) else none) ∧
  (∀ (P : Nat × Nat) (l0 : Option Value) (l1 : Option Value) (l2 : Option Value) (l3 : Option Value) (a0 : Nat) (s : List Value) (h : am_H), am_E P 43 5 [l0, l1, l2, l3] (.ref a0 :: s) h = am_E P 43 6 [l0, l1, l2, some (.ref a0)] s h) ∧
  (∀ (P : Nat × Nat) (l0 : Option Value) (l1 : Option Value) (l2 : Option Value) (l3 : Option Value) (s : List Value) (h : am_H), am_E P 43 5 [l0, l1, l2, l3] (.null :: s) h = am_E P 43 6 [l0, l1, l2, some .null] s h) ∧
  (∀ (P : Nat × Nat) (l0 : Option Value) (l1 : Option Value) (l2 : Option Value) (a0 : Nat) (s : List Value) (h : am_H), am_E P 43 6 [l0, l1, l2, some (.ref a0)] s h = am_E P 43 7 [l0, l1, l2, some (.ref a0)] (.ref a0 :: s) h) ∧
  (∀ (P : Nat × Nat) (l0 : Option Value) (l1 : Option Value) (l2 : Option Value) (s : List Value) (h : am_H), am_E P 43 6 [l0, l1, l2, some .null] s h = am_E P 43 7 [l0, l1, l2, some .null] (.null :: s) h) ∧
  (∀ (P : Nat × Nat) (l0 : Option Value) (l1 : Option Value) (l2 : Option Value) (l3 : Option Value) (a0 : Nat) (s : List Value) (h : am_H), am_E P 43 7 [l0, l1, l2, l3] (.ref a0 :: s) h = am_E P 43 12 [l0, l1, l2, l3] s h) ∧
  (∀ (P : Nat × Nat) (l0 : Option Value) (l1 : Option Value) (l2 : Option Value) (l3 : Option Value) (s : List Value) (h : am_H), am_E P 43 7 [l0, l1, l2, l3] (.null :: s) h = am_E P 43 10 [l0, l1, l2, l3] s h) ∧
  (∀ (P : Nat × Nat) (l0 : Option Value) (l1 : Option Value) (l2 : Option Value) (l3 : Option Value) (s : List Value) (h : am_H), am_E P 43 10 [l0, l1, l2, l3] s h = am_E P 43 11 [l0, l1, l2, l3] (.int (-1) :: s) h) ∧
  (∀ (P : Nat × Nat) (l0 : Option Value) (l1 : Option Value) (l2 : Option Value) (l3 : Option Value) (x0 : Int32) (h : am_H), am_E P 43 11 [l0, l1, l2, l3] [.int x0] h = some (some (.int x0), h)) ∧
  (∀ (P : Nat × Nat) (l0 : Option Value) (l1 : Option Value) (l3 : Option Value) (x0 : Int32) (s : List Value) (h : am_H), am_E P 43 12 [l0, l1, some (.int x0), l3] s h = am_E P 43 13 [l0, l1, some (.int x0), l3] (.int x0 :: s) h) ∧
  (∀ (P : Nat × Nat) (l0 : Option Value) (l1 : Option Value) (l2 : Option Value) (l3 : Option Value) (x0 : Int32) (s : List Value) (h : am_H), am_E P 43 13 [l0, l1, l2, l3] (.int x0 :: s) h = if x0 = 0 then am_E P 43 56 [l0, l1, l2, l3] s h else if x0 = 1 then am_E P 43 61 [l0, l1, l2, l3] s h else if x0 = 2 then am_E P 43 66 [l0, l1, l2, l3] s h else if x0 = 3 then am_E P 43 74 [l0, l1, l2, l3] s h else if x0 = 4 then am_E P 43 99 [l0, l1, l2, l3] s h else if x0 = 5 then am_E P 43 104 [l0, l1, l2, l3] s h else if x0 = 6 then am_E P 43 109 [l0, l1, l2, l3] s h else am_E P 43 114 [l0, l1, l2, l3] s h) ∧
  (∀ (P : Nat × Nat) (l0 : Option Value) (l1 : Option Value) (l2 : Option Value) (a0 : Nat) (s : List Value) (h : am_H), am_E P 43 56 [l0, l1, l2, some (.ref a0)] s h = am_E P 43 57 [l0, l1, l2, some (.ref a0)] (.ref a0 :: s) h) ∧
  (∀ (P : Nat × Nat) (l0 : Option Value) (l1 : Option Value) (l2 : Option Value) (s : List Value) (h : am_H), am_E P 43 56 [l0, l1, l2, some .null] s h = am_E P 43 57 [l0, l1, l2, some .null] (.null :: s) h) ∧
  (∀ (P : Nat × Nat) (l0 : Option Value) (l1 : Option Value) (l2 : Option Value) (l3 : Option Value) (a0 : Nat) (s : List Value) (h : am_H), am_E P 43 57 [l0, l1, l2, l3] (.ref a0 :: s) h = (am_g1 h a0 4 1).bind (fun v => am_E P 43 60 [l0, l1, l2, l3] (v :: s) h)) ∧
  (∀ (P : Nat × Nat) (l0 : Option Value) (l1 : Option Value) (l2 : Option Value) (l3 : Option Value) (x0 : Int32) (h : am_H), am_E P 43 60 [l0, l1, l2, l3] [.int x0] h = some (some (.int x0), h)) ∧
  (∀ (P : Nat × Nat) (l0 : Option Value) (l1 : Option Value) (l2 : Option Value) (a0 : Nat) (s : List Value) (h : am_H), am_E P 43 61 [l0, l1, l2, some (.ref a0)] s h = am_E P 43 62 [l0, l1, l2, some (.ref a0)] (.ref a0 :: s) h) ∧
  (∀ (P : Nat × Nat) (l0 : Option Value) (l1 : Option Value) (l2 : Option Value) (s : List Value) (h : am_H), am_E P 43 61 [l0, l1, l2, some .null] s h = am_E P 43 62 [l0, l1, l2, some .null] (.null :: s) h) ∧
  (∀ (P : Nat × Nat) (l0 : Option Value) (l1 : Option Value) (l2 : Option Value) (l3 : Option Value) (a0 : Nat) (s : List Value) (h : am_H), am_E P 43 62 [l0, l1, l2, l3] (.ref a0 :: s) h = (am_g1 h a0 4 4).bind (fun v => am_E P 43 65 [l0, l1, l2, l3] (v :: s) h)) ∧
  (∀ (P : Nat × Nat) (l0 : Option Value) (l1 : Option Value) (l2 : Option Value) (l3 : Option Value) (x0 : Int32) (h : am_H), am_E P 43 65 [l0, l1, l2, l3] [.int x0] h = some (some (.int x0), h)) ∧
  (∀ (P : Nat × Nat) (l0 : Option Value) (l1 : Option Value) (l2 : Option Value) (a0 : Nat) (s : List Value) (h : am_H), am_E P 43 66 [l0, l1, l2, some (.ref a0)] s h = am_E P 43 67 [l0, l1, l2, some (.ref a0)] (.ref a0 :: s) h) ∧
  (∀ (P : Nat × Nat) (l0 : Option Value) (l1 : Option Value) (l2 : Option Value) (s : List Value) (h : am_H), am_E P 43 66 [l0, l1, l2, some .null] s h = am_E P 43 67 [l0, l1, l2, some .null] (.null :: s) h) ∧
  (∀ (P : Nat × Nat) (l0 : Option Value) (l1 : Option Value) (l2 : Option Value) (l3 : Option Value) (a0 : Nat) (s : List Value) (h : am_H), am_E P 43 67 [l0, l1, l2, l3] (.ref a0 :: s) h = (am_g1 h a0 4 5).bind (fun v => am_E P 43 70 [l0, l1, l2, l3] (v :: s) h)) ∧
  (∀ (P : Nat × Nat) (l0 : Option Value) (l1 : Option Value) (l2 : Option Value) (l3 : Option Value) (a0 : Nat) (h : am_H), am_E P 43 70 [l0, l1, l2, l3] [.ref a0] h = if am_cls h a0 = some 0 then (am_E P 118 0 [some (.ref a0)] [] h).bind (fun q => am_E P 43 73 [l0, l1, l2, l3] (q.1.toList ++ []) q.2) else none) ∧
  (∀ (P : Nat × Nat) (l0 : Option Value) (l1 : Option Value) (l2 : Option Value) (l3 : Option Value) (x0 : Int32) (h : am_H), am_E P 43 73 [l0, l1, l2, l3] [.int x0] h = some (some (.int x0), h)) ∧
  (∀ (P : Nat × Nat) (l0 : Option Value) (l1 : Option Value) (l2 : Option Value) (a0 : Nat) (s : List Value) (h : am_H), am_E P 43 74 [l0, l1, l2, some (.ref a0)] s h = am_E P 43 75 [l0, l1, l2, some (.ref a0)] (.ref a0 :: s) h) ∧
  (∀ (P : Nat × Nat) (l0 : Option Value) (l1 : Option Value) (l2 : Option Value) (s : List Value) (h : am_H), am_E P 43 74 [l0, l1, l2, some .null] s h = am_E P 43 75 [l0, l1, l2, some .null] (.null :: s) h) ∧
  (∀ (P : Nat × Nat) (l0 : Option Value) (l1 : Option Value) (l2 : Option Value) (l3 : Option Value) (a0 : Nat) (s : List Value) (h : am_H), am_E P 43 75 [l0, l1, l2, l3] (.ref a0 :: s) h = (am_g1 h a0 4 1).bind (fun v => am_E P 43 78 [l0, l1, l2, l3] (v :: s) h)) ∧
  (∀ (P : Nat × Nat) (l0 : Option Value) (l1 : Option Value) (l2 : Option Value) (l3 : Option Value) (x0 : Int32) (s : List Value) (h : am_H), am_E P 43 78 [l0, l1, l2, l3] (.int x0 :: s) h = if x0 = 0 then am_E P 43 81 [l0, l1, l2, l3] s h else am_E P 43 91 [l0, l1, l2, l3] s h) ∧
  (∀ (P : Nat × Nat) (l0 : Option Value) (l1 : Option Value) (l2 : Option Value) (a0 : Nat) (s : List Value) (h : am_H), am_E P 43 81 [l0, l1, l2, some (.ref a0)] s h = am_E P 43 82 [l0, l1, l2, some (.ref a0)] (.ref a0 :: s) h) ∧
  (∀ (P : Nat × Nat) (l0 : Option Value) (l1 : Option Value) (l2 : Option Value) (s : List Value) (h : am_H), am_E P 43 81 [l0, l1, l2, some .null] s h = am_E P 43 82 [l0, l1, l2, some .null] (.null :: s) h) ∧
  (∀ (P : Nat × Nat) (l0 : Option Value) (l1 : Option Value) (l2 : Option Value) (l3 : Option Value) (a0 : Nat) (s : List Value) (h : am_H), am_E P 43 82 [l0, l1, l2, l3] (.ref a0 :: s) h = (am_g1 h a0 4 8).bind (fun v => am_E P 43 85 [l0, l1, l2, l3] (v :: s) h)) ∧
  (∀ (P : Nat × Nat) (l0 : Option Value) (l1 : Option Value) (l2 : Option Value) (l3 : Option Value) (a0 : Nat) (h : am_H), am_E P 43 85 [l0, l1, l2, l3] [.ref a0] h = if am_cls h a0 = some 3 then (am_E P 24 0 [some (.ref a0)] [] h).bind (fun q => am_E P 43 88 [l0, l1, l2, l3] (q.1.toList ++ []) q.2) else none) ∧
  (∀ (P : Nat × Nat) (l0 : Option Value) (l1 : Option Value) (l2 : Option Value) (l3 : Option Value) (s : List Value) (h : am_H), am_E P 43 88 [l0, l1, l2, l3] s h = am_E P 43 98 [l0, l1, l2, l3] s h) ∧
  (∀ (P : Nat × Nat) (l0 : Option Value) (l1 : Option Value) (l2 : Option Value) (a0 : Nat) (s : List Value) (h : am_H), am_E P 43 91 [l0, l1, l2, some (.ref a0)] s h = am_E P 43 92 [l0, l1, l2, some (.ref a0)] (.ref a0 :: s) h) ∧
  (∀ (P : Nat × Nat) (l0 : Option Value) (l1 : Option Value) (l2 : Option Value) (s : List Value) (h : am_H), am_E P 43 91 [l0, l1, l2, some .null] s h = am_E P 43 92 [l0, l1, l2, some .null] (.null :: s) h) ∧
  (∀ (P : Nat × Nat) (l0 : Option Value) (l1 : Option Value) (l2 : Option Value) (l3 : Option Value) (a0 : Nat) (s : List Value) (h : am_H), am_E P 43 92 [l0, l1, l2, l3] (.ref a0 :: s) h = (am_g1 h a0 4 9).bind (fun v => am_E P 43 95 [l0, l1, l2, l3] (v :: s) h)) ∧
  (∀ (P : Nat × Nat) (l0 : Option Value) (l1 : Option Value) (l2 : Option Value) (l3 : Option Value) (a0 : Nat) (s : List Value) (h : am_H), am_E P 43 95 [l0, l1, l2, l3] (.ref a0 :: s) h = (am_g1 h a0 7 3).bind (fun v => am_E P 43 98 [l0, l1, l2, l3] (v :: s) h)) ∧
  (∀ (P : Nat × Nat) (l0 : Option Value) (l1 : Option Value) (l2 : Option Value) (l3 : Option Value) (x0 : Int32) (h : am_H), am_E P 43 98 [l0, l1, l2, l3] [.int x0] h = some (some (.int x0), h)) ∧
  (∀ (P : Nat × Nat) (l0 : Option Value) (l1 : Option Value) (l2 : Option Value) (a0 : Nat) (s : List Value) (h : am_H), am_E P 43 99 [l0, l1, l2, some (.ref a0)] s h = am_E P 43 100 [l0, l1, l2, some (.ref a0)] (.ref a0 :: s) h) ∧
  (∀ (P : Nat × Nat) (l0 : Option Value) (l1 : Option Value) (l2 : Option Value) (s : List Value) (h : am_H), am_E P 43 99 [l0, l1, l2, some .null] s h = am_E P 43 100 [l0, l1, l2, some .null] (.null :: s) h) ∧
  (∀ (P : Nat × Nat) (l0 : Option Value) (l1 : Option Value) (l2 : Option Value) (l3 : Option Value) (a0 : Nat) (s : List Value) (h : am_H), am_E P 43 100 [l0, l1, l2, l3] (.ref a0 :: s) h = (am_g1 h a0 4 6).bind (fun v => am_E P 43 103 [l0, l1, l2, l3] (v :: s) h)) ∧
  (∀ (P : Nat × Nat) (l0 : Option Value) (l1 : Option Value) (l2 : Option Value) (l3 : Option Value) (x0 : Int32) (h : am_H), am_E P 43 103 [l0, l1, l2, l3] [.int x0] h = some (some (.int x0), h)) ∧
  (∀ (P : Nat × Nat) (l0 : Option Value) (l1 : Option Value) (l2 : Option Value) (a0 : Nat) (s : List Value) (h : am_H), am_E P 43 104 [l0, l1, l2, some (.ref a0)] s h = am_E P 43 105 [l0, l1, l2, some (.ref a0)] (.ref a0 :: s) h) ∧
  (∀ (P : Nat × Nat) (l0 : Option Value) (l1 : Option Value) (l2 : Option Value) (s : List Value) (h : am_H), am_E P 43 104 [l0, l1, l2, some .null] s h = am_E P 43 105 [l0, l1, l2, some .null] (.null :: s) h) ∧
  (∀ (P : Nat × Nat) (l0 : Option Value) (l1 : Option Value) (l2 : Option Value) (l3 : Option Value) (a0 : Nat) (s : List Value) (h : am_H), am_E P 43 105 [l0, l1, l2, l3] (.ref a0 :: s) h = (am_g1 h a0 4 7).bind (fun v => am_E P 43 108 [l0, l1, l2, l3] (v :: s) h)) ∧
  (∀ (P : Nat × Nat) (l0 : Option Value) (l1 : Option Value) (l2 : Option Value) (l3 : Option Value) (x0 : Int32) (h : am_H), am_E P 43 108 [l0, l1, l2, l3] [.int x0] h = some (some (.int x0), h)) ∧
  (∀ (P : Nat × Nat) (l0 : Option Value) (l1 : Option Value) (l2 : Option Value) (a0 : Nat) (s : List Value) (h : am_H), am_E P 43 109 [l0, l1, l2, some (.ref a0)] s h = am_E P 43 110 [l0, l1, l2, some (.ref a0)] (.ref a0 :: s) h) ∧
  (∀ (P : Nat × Nat) (l0 : Option Value) (l1 : Option Value) (l2 : Option Value) (s : List Value) (h : am_H), am_E P 43 109 [l0, l1, l2, some .null] s h = am_E P 43 110 [l0, l1, l2, some .null] (.null :: s) h) ∧
  (∀ (P : Nat × Nat) (l0 : Option Value) (l1 : Option Value) (l2 : Option Value) (l3 : Option Value) (a0 : Nat) (h : am_H), am_E P 43 110 [l0, l1, l2, l3] [.ref a0] h = if am_cls h a0 = some 4 then (am_E P 13 0 [some (.ref a0), none, none] [] h).bind (fun q => am_E P 43 113 [l0, l1, l2, l3] (q.1.toList ++ []) q.2) else none) ∧
  (∀ (P : Nat × Nat) (l0 : Option Value) (l1 : Option Value) (l2 : Option Value) (l3 : Option Value) (x0 : Int32) (h : am_H), am_E P 43 113 [l0, l1, l2, l3] [.int x0] h = some (some (.int x0), h)) ∧
  (∀ (P : Nat × Nat) (l0 : Option Value) (l1 : Option Value) (l2 : Option Value) (l3 : Option Value) (s : List Value) (h : am_H), am_E P 43 114 [l0, l1, l2, l3] s h = am_E P 43 116 [l0, l1, l2, l3] (.int (-2) :: s) h) ∧
  (∀ (P : Nat × Nat) (l0 : Option Value) (l1 : Option Value) (l2 : Option Value) (l3 : Option Value) (x0 : Int32) (h : am_H), am_E P 43 116 [l0, l1, l2, l3] [.int x0] h = some (some (.int x0), h)) :=
  ⟨fun _ _ _ _ _ _ _ => er_go rfl rfl,
  fun _ _ _ _ _ _ => er_go rfl rfl,
  fun _ _ _ _ _ _ _ => er_go rfl rfl,
  fun _ _ _ _ _ _ _ _ => er_callV rfl rfl rfl rfl,
  fun _ _ _ _ _ _ _ _ => er_go rfl rfl,
  fun _ _ _ _ _ _ _ => er_go rfl rfl,
  fun _ _ _ _ _ _ _ => er_go rfl rfl,
  fun _ _ _ _ _ _ => er_go rfl rfl,
  fun _ _ _ _ _ _ _ _ => er_go rfl rfl,
  fun _ _ _ _ _ _ _ => er_go rfl rfl,
  fun _ _ _ _ _ _ _ => er_go rfl rfl,
  fun _ _ _ _ _ _ _ => er_ret rfl rfl,
  fun _ _ _ _ _ _ _ => er_go rfl rfl,
  fun _ _ _ _ _ _ _ _ => er_sw rfl rfl rfl,
  fun _ _ _ _ _ _ _ => er_go rfl rfl,
  fun _ _ _ _ _ _ => er_go rfl rfl,
  fun _ _ _ _ _ _ _ _ => er_get1 rfl,
  fun _ _ _ _ _ _ _ => er_ret rfl rfl,
  fun _ _ _ _ _ _ _ => er_go rfl rfl,
  fun _ _ _ _ _ _ => er_go rfl rfl,
  fun _ _ _ _ _ _ _ _ => er_get1 rfl,
  fun _ _ _ _ _ _ _ => er_ret rfl rfl,
  fun _ _ _ _ _ _ _ => er_go rfl rfl,
  fun _ _ _ _ _ _ => er_go rfl rfl,
  fun _ _ _ _ _ _ _ _ => er_get1 rfl,
  fun _ _ _ _ _ _ _ => er_callV rfl rfl rfl rfl,
  fun _ _ _ _ _ _ _ => er_ret rfl rfl,
  fun _ _ _ _ _ _ _ => er_go rfl rfl,
  fun _ _ _ _ _ _ => er_go rfl rfl,
  fun _ _ _ _ _ _ _ _ => er_get1 rfl,
  fun _ _ _ _ _ _ _ _ => er_if_ne rfl,
  fun _ _ _ _ _ _ _ => er_go rfl rfl,
  fun _ _ _ _ _ _ => er_go rfl rfl,
  fun _ _ _ _ _ _ _ _ => er_get1 rfl,
  fun _ _ _ _ _ _ _ => er_callV rfl rfl rfl rfl,
  fun _ _ _ _ _ _ _ => er_go rfl rfl,
  fun _ _ _ _ _ _ _ => er_go rfl rfl,
  fun _ _ _ _ _ _ => er_go rfl rfl,
  fun _ _ _ _ _ _ _ _ => er_get1 rfl,
  fun _ _ _ _ _ _ _ _ => er_get1 rfl,
  fun _ _ _ _ _ _ _ => er_ret rfl rfl,
  fun _ _ _ _ _ _ _ => er_go rfl rfl,
  fun _ _ _ _ _ _ => er_go rfl rfl,
  fun _ _ _ _ _ _ _ _ => er_get1 rfl,
  fun _ _ _ _ _ _ _ => er_ret rfl rfl,
  fun _ _ _ _ _ _ _ => er_go rfl rfl,
  fun _ _ _ _ _ _ => er_go rfl rfl,
  fun _ _ _ _ _ _ _ _ => er_get1 rfl,
  fun _ _ _ _ _ _ _ => er_ret rfl rfl,
  fun _ _ _ _ _ _ _ => er_go rfl rfl,
  fun _ _ _ _ _ _ => er_go rfl rfl,
  fun _ _ _ _ _ _ _ => er_callV rfl rfl rfl rfl,
  fun _ _ _ _ _ _ _ => er_ret rfl rfl,
  fun _ _ _ _ _ _ _ => er_go rfl rfl,
  fun _ _ _ _ _ _ _ => er_ret rfl rfl⟩
/-- TwoStepOutputs.part(III)I -/
theorem r44 : (∀ (P : Nat × Nat) (l1 : Option Value) (l2 : Option Value) (l3 : Option Value) (l4 : Option Value) (l5 : Option Value) (a0 : Nat) (s : List Value) (h : am_H), am_E P 44 0 [some (.ref a0), l1, l2, l3, l4, l5] s h = am_E P 44 1 [some (.ref a0), l1, l2, l3, l4, l5] (.ref a0 :: s) h) ∧
  (∀ (P : Nat × Nat) (l1 : Option Value) (l2 : Option Value) (l3 : Option Value) (l4 : Option Value) (l5 : Option Value) (s : List Value) (h : am_H), am_E P 44 0 [some .null, l1, l2, l3, l4, l5] s h = am_E P 44 1 [some .null, l1, l2, l3, l4, l5] (.null :: s) h) ∧
  (∀ (P : Nat × Nat) (l0 : Option Value) (l2 : Option Value) (l3 : Option Value) (l4 : Option Value) (l5 : Option Value) (x0 : Int32) (s : List Value) (h : am_H), am_E P 44 1 [l0, some (.int x0), l2, l3, l4, l5] s h = am_E P 44 2 [l0, some (.int x0), l2, l3, l4, l5] (.int x0 :: s) h) ∧
  (∀ (P : Nat × Nat) (l0 : Option Value) (l1 : Option Value) (l2 : Option Value) (l3 : Option Value) (l4 : Option Value) (l5 : Option Value) (a0 : Nat) (x0 : Int32) (h : am_H), am_E P 44 2 [l0, l1, l2, l3, l4, l5] [.int x0, .ref a0] h = if am_cls h a0 = some 8 then (am_E P 53 0 [some (.ref a0), some (.int x0)] [] h).bind (fun q => am_E P 44 5 [l0, l1, l2, l3, l4, l5] (q.1.toList ++ []) q.2) else none) ∧
  (∀ (P : Nat × Nat) (l0 : Option Value) (l1 : Option Value) (l2 : Option Value) (l3 : Option Value) (l4 : Option Value) (l5 : Option Value) (a0 : Nat) (s : List Value) (h : am_H), am_E P 44 5 [l0, l1, l2, l3, l4, l5] (.ref a0 :: s) h = am_E P 44 7 [l0, l1, l2, l3, some (.ref a0), l5] s h) ∧
  (∀ (P : Nat × Nat) (l0 : Option Value) (l1 : Option Value) (l2 : Option Value) (l3 : Option Value) (l4 : Option Value) (l5 : Option Value) (s : List Value) (h : am_H), am_E P 44 5 [l0, l1, l2, l3, l4, l5] (.null :: s) h = am_E P 44 7 [l0, l1, l2, l3, some .null, l5] s h) ∧
  (∀ (P : Nat × Nat) (l0 : Option Value) (l1 : Option Value) (l2 : Option Value) (l3 : Option Value) (l5 : Option Value) (a0 : Nat) (s : List Value) (h : am_H), am_E P 44 7 [l0, l1, l2, l3, some (.ref a0), l5] s h = am_E P 44 9 [l0, l1, l2, l3, some (.ref a0), l5] (.ref a0 :: s) h) ∧
  (∀ (P : Nat × Nat) (l0 : Option Value) (l1 : Option Value) (l2 : Option Value) (l3 : Option Value) (l5 : Option Value) (s : List Value) (h : am_H), am_E P 44 7 [l0, l1, l2, l3, some .null, l5] s h = am_E P 44 9 [l0, l1, l2, l3, some .null, l5] (.null :: s) h) ∧
  (∀ (P : Nat × Nat) (l0 : Option Value) (l1 : Option Value) (l2 : Option Value) (l3 : Option Value) (l4 : Option Value) (l5 : Option Value) (a0 : Nat) (s : List Value) (h : am_H), am_E P 44 9 [l0, l1, l2, l3, l4, l5] (.ref a0 :: s) h = am_E P 44 16 [l0, l1, l2, l3, l4, l5] s h) ∧
  (∀ (P : Nat × Nat) (l0 : Option Value) (l1 : Option Value) (l2 : Option Value) (l3 : Option Value) (l4 : Option Value) (l5 : Option Value) (s : List Value) (h : am_H), am_E P 44 9 [l0, l1, l2, l3, l4, l5] (.null :: s) h = am_E P 44 12 [l0, l1, l2, l3, l4, l5] s h) ∧
  (∀ (P : Nat × Nat) (l0 : Option Value) (l1 : Option Value) (l2 : Option Value) (l3 : Option Value) (l4 : Option Value) (l5 : Option Value) (s : List Value) (h : am_H), am_E P 44 12 [l0, l1, l2, l3, l4, l5] s h = am_E P 44 13 [l0, l1, l2, l3, l4, l5] (.null :: s) h) ∧
  (∀ (P : Nat × Nat) (l0 : Option Value) (l1 : Option Value) (l2 : Option Value) (l3 : Option Value) (l4 : Option Value) (l5 : Option Value) (s : List Value) (h : am_H), am_E P 44 13 [l0, l1, l2, l3, l4, l5] s h = am_E P 44 22 [l0, l1, l2, l3, l4, l5] s h) ∧
  (∀ (P : Nat × Nat) (l0 : Option Value) (l1 : Option Value) (l2 : Option Value) (l3 : Option Value) (l5 : Option Value) (a0 : Nat) (s : List Value) (h : am_H), am_E P 44 16 [l0, l1, l2, l3, some (.ref a0), l5] s h = am_E P 44 18 [l0, l1, l2, l3, some (.ref a0), l5] (.ref a0 :: s) h) ∧
  (∀ (P : Nat × Nat) (l0 : Option Value) (l1 : Option Value) (l2 : Option Value) (l3 : Option Value) (l5 : Option Value) (s : List Value) (h : am_H), am_E P 44 16 [l0, l1, l2, l3, some .null, l5] s h = am_E P 44 18 [l0, l1, l2, l3, some .null, l5] (.null :: s) h) ∧
  (∀ (P : Nat × Nat) (l0 : Option Value) (l1 : Option Value) (l3 : Option Value) (l4 : Option Value) (l5 : Option Value) (x0 : Int32) (s : List Value) (h : am_H), am_E P 44 18 [l0, l1, some (.int x0), l3, l4, l5] s h = am_E P 44 19 [l0, l1, some (.int x0), l3, l4, l5] (.int x0 :: s) h) ∧
  (∀ (P : Nat × Nat) (l0 : Option Value) (l1 : Option Value) (l2 : Option Value) (l3 : Option Value) (l4 : Option Value) (l5 : Option Value) (a0 : Nat) (x0 : Int32) (h : am_H), am_E P 44 19 [l0, l1, l2, l3, l4, l5] [.int x0, .ref a0] h = if am_cls h a0 = some 4 then (am_E P 12 0 [some (.ref a0), some (.int x0)] [] h).bind (fun q => am_E P 44 22 [l0, l1, l2, l3, l4, l5] (q.1.toList ++ []) q.2) else none) ∧
  (∀ (P : Nat × Nat) (l0 : Option Value) (l1 : Option Value) (l2 : Option Value) (l3 : Option Value) (l4 : Option Value) (l5 : Option Value) (a0 : Nat) (s : List Value) (h : am_H), am_E P 44 22 [l0, l1, l2, l3, l4, l5] (.ref a0 :: s) h = am_E P 44 24 [l0, l1, l2, l3, l4, some (.ref a0)] s h) ∧
  (∀ (P : Nat × Nat) (l0 : Option Value) (l1 : Option Value) (l2 : Option Value) (l3 : Option Value) (l4 : Option Value) (l5 : Option Value) (s : List Value) (h : am_H), am_E P 44 22 [l0, l1, l2, l3, l4, l5] (.null :: s) h = am_E P 44 24 [l0, l1, l2, l3, l4, some .null] s h) ∧
  (∀ (P : Nat × Nat) (l0 : Option Value) (l1 : Option Value) (l2 : Option Value) (l3 : Option Value) (l4 : Option Value) (a0 : Nat) (s : List Value) (h : am_H), am_E P 44 24 [l0, l1, l2, l3, l4, some (.ref a0)] s h = am_E P 44 26 [l0, l1, l2, l3, l4, some (.ref a0)] (.ref a0 :: s) h) ∧
  (∀ (P : Nat × Nat) (l0 : Option Value) (l1 : Option Value) (l2 : Option Value) (l3 : Option Value) (l4 : Option Value) (s : List Value) (h : am_H), am_E P 44 24 [l0, l1, l2, l3, l4, some .null] s h = am_E P 44 26 [l0, l1, l2, l3, l4, some .null] (.null :: s) h) ∧
  (∀ (P : Nat × Nat) (l0 : Option Value) (l1 : Option Value) (l2 : Option Value) (l3 : Option Value) (l4 : Option Value) (l5 : Option Value) (a0 : Nat) (s : List Value) (h : am_H), am_E P 44 26 [l0, l1, l2, l3, l4, l5] (.ref a0 :: s) h = am_E P 44 31 [l0, l1, l2, l3, l4, l5] s h) ∧
  (∀ (P : Nat × Nat) (l0 : Option Value) (l1 : Option Value) (l2 : Option Value) (l3 : Option Value) (l4 : Option Value) (l5 : Option Value) (s : List Value) (h : am_H), am_E P 44 26 [l0, l1, l2, l3, l4, l5] (.null :: s) h = am_E P 44 29 [l0, l1, l2, l3, l4, l5] s h) ∧
  (∀ (P : Nat × Nat) (l0 : Option Value) (l1 : Option Value) (l2 : Option Value) (l3 : Option Value) (l4 : Option Value) (l5 : Option Value) (s : List Value) (h : am_H), am_E P 44 29 [l0, l1, l2, l3, l4, l5] s h = am_E P 44 30 [l0, l1, l2, l3, l4, l5] (.int (-1) :: s) h) ∧
  (∀ (P : Nat × Nat) (l0 : Option Value) (l1 : Option Value) (l2 : Option Value) (l3 : Option Value) (l4 : Option Value) (l5 : Option Value) (x0 : Int32) (h : am_H), am_E P 44 30 [l0, l1, l2, l3, l4, l5] [.int x0] h = some (some (.int x0), h)) ∧
  (∀ (P : Nat × Nat) (l0 : Option Value) (l1 : Option Value) (l2 : Option Value) (l4 : Option Value) (l5 : Option Value) (x0 : Int32) (s : List Value) (h : am_H), am_E P 44 31 [l0, l1, l2, some (.int x0), l4, l5] s h = am_E P 44 32 [l0, l1, l2, some (.int x0), l4, l5] (.int x0 :: s) h) ∧
  (∀ (P : Nat × Nat) (l0 : Option Value) (l1 : Option Value) (l2 : Option Value) (l3 : Option Value) (l4 : Option Value) (l5 : Option Value) (x0 : Int32) (s : List Value) (h : am_H), am_E P 44 32 [l0, l1, l2, l3, l4, l5] (.int x0 :: s) h = if x0 = 0 then am_E P 44 60 [l0, l1, l2, l3, l4, l5] s h else if x0 = 1 then am_E P 44 66 [l0, l1, l2, l3, l4, l5] s h else if x0 = 2 then am_E P 44 72 [l0, l1, l2, l3, l4, l5] s h else am_E P 44 78 [l0, l1, l2, l3, l4, l5] s h) ∧
  (∀ (P : Nat × Nat) (l0 : Option Value) (l1 : Option Value) (l2 : Option Value) (l3 : Option Value) (l4 : Option Value) (a0 : Nat) (s : List Value) (h : am_H), am_E P 44 60 [l0, l1, l2, l3, l4, some (.ref a0)] s h = am_E P 44 62 [l0, l1, l2, l3, l4, some (.ref a0)] (.ref a0 :: s) h) ∧
  (∀ (P : Nat × Nat) (l0 : Option Value) (l1 : Option Value) (l2 : Option Value) (l3 : Option Value) (l4 : Option Value) (s : List Value) (h : am_H), am_E P 44 60 [l0, l1, l2, l3, l4, some .null] s h = am_E P 44 62 [l0, l1, l2, l3, l4, some .null] (.null :: s) h) ∧
  (∀ (P : Nat × Nat) (l0 : Option Value) (l1 : Option Value) (l2 : Option Value) (l3 : Option Value) (l4 : Option Value) (l5 : Option Value) (a0 : Nat) (s : List Value) (h : am_H), am_E P 44 62 [l0, l1, l2, l3, l4, l5] (.ref a0 :: s) h = (am_g1 h a0 5 3).bind (fun v => am_E P 44 65 [l0, l1, l2, l3, l4, l5] (v :: s) h)) ∧
  (∀ (P : Nat × Nat) (l0 : Option Value) (l1 : Option Value) (l2 : Option Value) (l3 : Option Value) (l4 : Option Value) (l5 : Option Value) (x0 : Int32) (h : am_H), am_E P 44 65 [l0, l1, l2, l3, l4, l5] [.int x0] h = some (some (.int x0), h)) ∧
  (∀ (P : Nat × Nat) (l0 : Option Value) (l1 : Option Value) (l2 : Option Value) (l3 : Option Value) (l4 : Option Value) (a0 : Nat) (s : List Value) (h : am_H), am_E P 44 66 [l0, l1, l2, l3, l4, some (.ref a0)] s h = am_E P 44 68 [l0, l1, l2, l3, l4, some (.ref a0)] (.ref a0 :: s) h) ∧
  (∀ (P : Nat × Nat) (l0 : Option Value) (l1 : Option Value) (l2 : Option Value) (l3 : Option Value) (l4 : Option Value) (s : List Value) (h : am_H), am_E P 44 66 [l0, l1, l2, l3, l4, some .null] s h = am_E P 44 68 [l0, l1, l2, l3, l4, some .null] (.null :: s) h) ∧
  (∀ (P : Nat × Nat) (l0 : Option Value) (l1 : Option Value) (l2 : Option Value) (l3 : Option Value) (l4 : Option Value) (l5 : Option Value) (a0 : Nat) (s : List Value) (h : am_H), am_E P 44 68 [l0, l1, l2, l3, l4, l5] (.ref a0 :: s) h = (am_g1 h a0 5 2).bind (fun v => am_E P 44 71 [l0, l1, l2, l3, l4, l5] (v :: s) h)) ∧
  (∀ (P : Nat × Nat) (l0 : Option Value) (l1 : Option Value) (l2 : Option Value) (l3 : Option Value) (l4 : Option Value) (l5 : Option Value) (x0 : Int32) (h : am_H), am_E P 44 71 [l0, l1, l2, l3, l4, l5] [.int x0] h = some (some (.int x0), h)) ∧
  (∀ (P : Nat × Nat) (l0 : Option Value) (l1 : Option Value) (l2 : Option Value) (l3 : Option Value) (l4 : Option Value) (a0 : Nat) (s : List Value) (h : am_H), am_E P 44 72 [l0, l1, l2, l3, l4, some (.ref a0)] s h = am_E P 44 74 [l0, l1, l2, l3, l4, some (.ref a0)] (.ref a0 :: s) h) ∧
  (∀ (P : Nat × Nat) (l0 : Option Value) (l1 : Option Value) (l2 : Option Value) (l3 : Option Value) (l4 : Option Value) (s : List Value) (h : am_H), am_E P 44 72 [l0, l1, l2, l3, l4, some .null] s h = am_E P 44 74 [l0, l1, l2, l3, l4, some .null] (.null :: s) h) ∧
  (∀ (P : Nat × Nat) (l0 : Option Value) (l1 : Option Value) (l2 : Option Value) (l3 : Option Value) (l4 : Option Value) (l5 : Option Value) (a0 : Nat) (s : List Value) (h : am_H), am_E P 44 74 [l0, l1, l2, l3, l4, l5] (.ref a0 :: s) h = (am_g1 h a0 5 4).bind (fun v => am_E P 44 77 [l0, l1, l2, l3, l4, l5] (v :: s) h)) ∧
  (∀ (P : Nat × Nat) (l0 : Option Value) (l1 : Option Value) (l2 : Option Value) (l3 : Option Value) (l4 : Option Value) (l5 : Option Value) (x0 : Int32) (h : am_H), am_E P 44 77 [l0, l1, l2, l3, l4, l5] [.int x0] h = some (some (.int x0), h)) ∧
  (∀ (P : Nat × Nat) (l0 : Option Value) (l1 : Option Value) (l2 : Option Value) (l3 : Option Value) (l4 : Option Value) (l5 : Option Value) (s : List Value) (h : am_H), am_E P 44 78 [l0, l1, l2, l3, l4, l5] s h = am_E P 44 80 [l0, l1, l2, l3, l4, l5] (.int (-2) :: s) h) ∧
  (∀ (P : Nat × Nat) (l0 : Option Value) (l1 : Option Value) (l2 : Option Value) (l3 : Option Value) (l4 : Option Value) (l5 : Option Value) (x0 : Int32) (h : am_H), am_E P 44 80 [l0, l1, l2, l3, l4, l5] [.int x0] h = some (some (.int x0), h)) :=
  ⟨fun _ _ _ _ _ _ _ _ _ => er_go rfl rfl,
  fun _ _ _ _ _ _ _ _ => er_go rfl rfl,
  fun _ _ _ _ _ _ _ _ _ => er_go rfl rfl,
  fun _ _ _ _ _ _ _ _ _ _ => er_callV rfl rfl rfl rfl,
  fun _ _ _ _ _ _ _ _ _ _ => er_go rfl rfl,
  fun _ _ _ _ _ _ _ _ _ => er_go rfl rfl,
  fun _ _ _ _ _ _ _ _ _ => er_go rfl rfl,
  fun _ _ _ _ _ _ _ _ => er_go rfl rfl,
  fun _ _ _ _ _ _ _ _ _ _ => er_go rfl rfl,
  fun _ _ _ _ _ _ _ _ _ => er_go rfl rfl,
  fun _ _ _ _ _ _ _ _ _ => er_go rfl rfl,
  fun _ _ _ _ _ _ _ _ _ => er_go rfl rfl,
  fun _ _ _ _ _ _ _ _ _ => er_go rfl rfl,
  fun _ _ _ _ _ _ _ _ => er_go rfl rfl,
  fun _ _ _ _ _ _ _ _ _ => er_go rfl rfl,
  fun _ _ _ _ _ _ _ _ _ _ => er_callV rfl rfl rfl rfl,
  fun _ _ _ _ _ _ _ _ _ _ => er_go rfl rfl,
  fun _ _ _ _ _ _ _ _ _ => er_go rfl rfl,
  fun _ _ _ _ _ _ _ _ _ => er_go rfl rfl,
  fun _ _ _ _ _ _ _ _ => er_go rfl rfl,
  fun _ _ _ _ _ _ _ _ _ _ => er_go rfl rfl,
  fun _ _ _ _ _ _ _ _ _ => er_go rfl rfl,
  fun _ _ _ _ _ _ _ _ _ => er_go rfl rfl,
  fun _ _ _ _ _ _ _ _ _ => er_ret rfl rfl,
  fun _ _ _ _ _ _ _ _ _ => er_go rfl rfl,
  fun _ _ _ _ _ _ _ _ _ _ => er_sw rfl rfl rfl,
  fun _ _ _ _ _ _ _ _ _ => er_go rfl rfl,
  fun _ _ _ _ _ _ _ _ => er_go rfl rfl,
  fun _ _ _ _ _ _ _ _ _ _ => er_get1 rfl,
  fun _ _ _ _ _ _ _ _ _ => er_ret rfl rfl,
  fun _ _ _ _ _ _ _ _ _ => er_go rfl rfl,
  fun _ _ _ _ _ _ _ _ => er_go rfl rfl,
  fun _ _ _ _ _ _ _ _ _ _ => er_get1 rfl,
  fun _ _ _ _ _ _ _ _ _ => er_ret rfl rfl,
  fun _ _ _ _ _ _ _ _ _ => er_go rfl rfl,
  fun _ _ _ _ _ _ _ _ => er_go rfl rfl,
  fun _ _ _ _ _ _ _ _ _ _ => er_get1 rfl,
  fun _ _ _ _ _ _ _ _ _ => er_ret rfl rfl,
  fun _ _ _ _ _ _ _ _ _ => er_go rfl rfl,
  fun _ _ _ _ _ _ _ _ _ => er_ret rfl rfl⟩
/-- TwoStepOutputs.line(III)J -/
theorem r45 : (∀ (P : Nat × Nat) (l1 : Option Value) (l2 : Option Value) (l3 : Option Value) (l4 : Option Value) (a0 : Nat) (s : List Value) (h : am_H), am_E P 45 0 [some (.ref a0), l1, l2, l3, l4] s h = am_E P 45 1 [some (.ref a0), l1, l2, l3, l4] (.ref a0 :: s) h) ∧
  (∀ (P : Nat × Nat) (l1 : Option Value) (l2 : Option Value) (l3 : Option Value) (l4 : Option Value) (s : List Value) (h : am_H), am_E P 45 0 [some .null, l1, l2, l3, l4] s h = am_E P 45 1 [some .null, l1, l2, l3, l4] (.null :: s) h) ∧
  (∀ (P : Nat × Nat) (l0 : Option Value) (l2 : Option Value) (l3 : Option Value) (l4 : Option Value) (x0 : Int32) (s : List Value) (h : am_H), am_E P 45 1 [l0, some (.int x0), l2, l3, l4] s h = am_E P 45 2 [l0, some (.int x0), l2, l3, l4] (.int x0 :: s) h) ∧
  (∀ (P : Nat × Nat) (l0 : Option Value) (l1 : Option Value) (l2 : Option Value) (l3 : Option Value) (l4 : Option Value) (a0 : Nat) (x0 : Int32) (h : am_H), am_E P 45 2 [l0, l1, l2, l3, l4] [.int x0, .ref a0] h = if am_cls h a0 = some 8 then (am_E P 53 0 [some (.ref a0), some (.int x0)] [] h).bind (fun q => am_E P 45 5 [l0, l1, l2, l3, l4] (q.1.toList ++ []) q.2) else none) ∧
  (∀ (P : Nat × Nat) (l0 : Option Value) (l1 : Option Value) (l2 : Option Value) (l3 : Option Value) (l4 : Option Value) (a0 : Nat) (s : List Value) (h : am_H), am_E P 45 5 [l0, l1, l2, l3, l4] (.ref a0 :: s) h = am_E P 45 7 [l0, l1, l2, l3, some (.ref a0)] s h) ∧
  (∀ (P : Nat × Nat) (l0 : Option Value) (l1 : Option Value) (l2 : Option Value) (l3 : Option Value) (l4 : Option Value) (s : List Value) (h : am_H), am_E P 45 5 [l0, l1, l2, l3, l4] (.null :: s) h = am_E P 45 7 [l0, l1, l2, l3, some .null] s h) ∧
  (∀ (P : Nat × Nat) (l0 : Option Value) (l1 : Option Value) (l2 : Option Value) (l3 : Option Value) (a0 : Nat) (s : List Value) (h : am_H), am_E P 45 7 [l0, l1, l2, l3, some (.ref a0)] s h = am_E P 45 9 [l0, l1, l2, l3, some (.ref a0)] (.ref a0 :: s) h) ∧
  (∀ (P : Nat × Nat) (l0 : Option Value) (l1 : Option Value) (l2 : Option Value) (l3 : Option Value) (s : List Value) (h : am_H), am_E P 45 7 [l0, l1, l2, l3, some .null] s h = am_E P 45 9 [l0, l1, l2, l3, some .null] (.null :: s) h) ∧
  (∀ (P : Nat × Nat) (l0 : Option Value) (l1 : Option Value) (l2 : Option Value) (l3 : Option Value) (l4 : Option Value) (a0 : Nat) (s : List Value) (h : am_H), am_E P 45 9 [l0, l1, l2, l3, l4] (.ref a0 :: s) h = am_E P 45 12 [l0, l1, l2, l3, l4] s h) ∧
  (∀ (P : Nat × Nat) (l0 : Option Value) (l1 : Option Value) (l2 : Option Value) (l3 : Option Value) (l4 : Option Value) (s : List Value) (h : am_H), am_E P 45 9 [l0, l1, l2, l3, l4] (.null :: s) h = am_E P 45 20 [l0, l1, l2, l3, l4] s h) ∧
  (∀ (P : Nat × Nat) (l0 : Option Value) (l1 : Option Value) (l2 : Option Value) (l3 : Option Value) (a0 : Nat) (s : List Value) (h : am_H), am_E P 45 12 [l0, l1, l2, l3, some (.ref a0)] s h = am_E P 45 14 [l0, l1, l2, l3, some (.ref a0)] (.ref a0 :: s) h) ∧
  (∀ (P : Nat × Nat) (l0 : Option Value) (l1 : Option Value) (l2 : Option Value) (l3 : Option Value) (s : List Value) (h : am_H), am_E P 45 12 [l0, l1, l2, l3, some .null] s h = am_E P 45 14 [l0, l1, l2, l3, some .null] (.null :: s) h) ∧
  (∀ (P : Nat × Nat) (l0 : Option Value) (l1 : Option Value) (l2 : Option Value) (l3 : Option Value) (l4 : Option Value) (a0 : Nat) (s : List Value) (h : am_H), am_E P 45 14 [l0, l1, l2, l3, l4] (.ref a0 :: s) h = (am_g1 h a0 4 1).bind (fun v => am_E P 45 17 [l0, l1, l2, l3, l4] (v :: s) h)) ∧
  (∀ (P : Nat × Nat) (l0 : Option Value) (l1 : Option Value) (l2 : Option Value) (l3 : Option Value) (l4 : Option Value) (x0 : Int32) (s : List Value) (h : am_H), am_E P 45 17 [l0, l1, l2, l3, l4] (.int x0 :: s) h = if x0 = 0 then am_E P 45 24 [l0, l1, l2, l3, l4] s h else am_E P 45 20 [l0, l1, l2, l3, l4] s h) ∧
  (∀ (P : Nat × Nat) (l0 : Option Value) (l1 : Option Value) (l2 : Option Value) (l3 : Option Value) (l4 : Option Value) (s : List Value) (h : am_H), am_E P 45 20 [l0, l1, l2, l3, l4] s h = am_E P 45 23 [l0, l1, l2, l3, l4] (.long (-9223372036854775808) :: s) h) ∧
  (∀ (P : Nat × Nat) (l0 : Option Value) (l1 : Option Value) (l2 : Option Value) (l3 : Option Value) (l4 : Option Value) (j0 : Int64) (h : am_H), am_E P 45 23 [l0, l1, l2, l3, l4] [.long j0] h = some (some (.long j0), h)) ∧
  (∀ (P : Nat × Nat) (l0 : Option Value) (l1 : Option Value) (l2 : Option Value) (l3 : Option Value) (a0 : Nat) (s : List Value) (h : am_H), am_E P 45 24 [l0, l1, l2, l3, some (.ref a0)] s h = am_E P 45 26 [l0, l1, l2, l3, some (.ref a0)] (.ref a0 :: s) h) ∧
  (∀ (P : Nat × Nat) (l0 : Option Value) (l1 : Option Value) (l2 : Option Value) (l3 : Option Value) (s : List Value) (h : am_H), am_E P 45 24 [l0, l1, l2, l3, some .null] s h = am_E P 45 26 [l0, l1, l2, l3, some .null] (.null :: s) h) ∧
  (∀ (P : Nat × Nat) (l0 : Option Value) (l1 : Option Value) (l2 : Option Value) (l3 : Option Value) (l4 : Option Value) (a0 : Nat) (s : List Value) (h : am_H), am_E P 45 26 [l0, l1, l2, l3, l4] (.ref a0 :: s) h = (am_g1 h a0 4 8).bind (fun v => am_E P 45 29 [l0, l1, l2, l3, l4] (v :: s) h)) ∧
  (∀ (P : Nat × Nat) (l0 : Option Value) (l1 : Option Value) (l3 : Option Value) (l4 : Option Value) (x0 : Int32) (s : List Value) (h : am_H), am_E P 45 29 [l0, l1, some (.int x0), l3, l4] s h = am_E P 45 30 [l0, l1, some (.int x0), l3, l4] (.int x0 :: s) h) ∧
  (∀ (P : Nat × Nat) (l0 : Option Value) (l1 : Option Value) (l2 : Option Value) (l4 : Option Value) (x0 : Int32) (s : List Value) (h : am_H), am_E P 45 30 [l0, l1, l2, some (.int x0), l4] s h = am_E P 45 31 [l0, l1, l2, some (.int x0), l4] (.int x0 :: s) h) ∧
  (∀ (P : Nat × Nat) (l0 : Option Value) (l1 : Option Value) (l2 : Option Value) (l3 : Option Value) (l4 : Option Value) (a0 : Nat) (x0 : Int32) (x1 : Int32) (h : am_H), am_E P 45 31 [l0, l1, l2, l3, l4] [.int x1, .int x0, .ref a0] h = if am_cls h a0 = some 3 then (am_E P 25 0 [some (.ref a0), some (.int x0), some (.int x1)] [] h).bind (fun q => am_E P 45 34 [l0, l1, l2, l3, l4] (q.1.toList ++ []) q.2) else none) ∧
  (∀ (P : Nat × Nat) (l0 : Option Value) (l1 : Option Value) (l2 : Option Value) (l3 : Option Value) (l4 : Option Value) (x0 : Int32) (s : List Value) (h : am_H), am_E P 45 34 [l0, l1, l2, l3, l4] (.int x0 :: s) h = if x0 = 0 then am_E P 45 51 [l0, l1, l2, l3, l4] s h else am_E P 45 37 [l0, l1, l2, l3, l4] s h) ∧
  (∀ (P : Nat × Nat) (l0 : Option Value) (l1 : Option Value) (l2 : Option Value) (l3 : Option Value) (a0 : Nat) (s : List Value) (h : am_H), am_E P 45 37 [l0, l1, l2, l3, some (.ref a0)] s h = am_E P 45 39 [l0, l1, l2, l3, some (.ref a0)] (.ref a0 :: s) h) ∧
  (∀ (P : Nat × Nat) (l0 : Option Value) (l1 : Option Value) (l2 : Option Value) (l3 : Option Value) (s : List Value) (h : am_H), am_E P 45 37 [l0, l1, l2, l3, some .null] s h = am_E P 45 39 [l0, l1, l2, l3, some .null] (.null :: s) h) ∧
  (∀ (P : Nat × Nat) (l0 : Option Value) (l1 : Option Value) (l2 : Option Value) (l3 : Option Value) (l4 : Option Value) (a0 : Nat) (s : List Value) (h : am_H), am_E P 45 39 [l0, l1, l2, l3, l4] (.ref a0 :: s) h = (am_g1 h a0 4 8).bind (fun v => am_E P 45 42 [l0, l1, l2, l3, l4] (v :: s) h)) ∧
  (∀ (P : Nat × Nat) (l0 : Option Value) (l1 : Option Value) (l3 : Option Value) (l4 : Option Value) (x0 : Int32) (s : List Value) (h : am_H), am_E P 45 42 [l0, l1, some (.int x0), l3, l4] s h = am_E P 45 43 [l0, l1, some (.int x0), l3, l4] (.int x0 :: s) h) ∧
  (∀ (P : Nat × Nat) (l0 : Option Value) (l1 : Option Value) (l2 : Option Value) (l4 : Option Value) (x0 : Int32) (s : List Value) (h : am_H), am_E P 45 43 [l0, l1, l2, some (.int x0), l4] s h = am_E P 45 44 [l0, l1, l2, some (.int x0), l4] (.int x0 :: s) h) ∧
  (∀ (P : Nat × Nat) (l0 : Option Value) (l1 : Option Value) (l2 : Option Value) (l3 : Option Value) (l4 : Option Value) (a0 : Nat) (x0 : Int32) (x1 : Int32) (h : am_H), am_E P 45 44 [l0, l1, l2, l3, l4] [.int x1, .int x0, .ref a0] h = if am_cls h a0 = some 3 then (am_E P 26 0 [some (.ref a0), some (.int x0), some (.int x1)] [] h).bind (fun q => am_E P 45 47 [l0, l1, l2, l3, l4] (q.1.toList ++ []) q.2) else none) ∧
  (∀ (P : Nat × Nat) (l0 : Option Value) (l1 : Option Value) (l2 : Option Value) (l3 : Option Value) (l4 : Option Value) (x0 : Int32) (s : List Value) (h : am_H), am_E P 45 47 [l0, l1, l2, l3, l4] (.int x0 :: s) h = am_E P 45 48 [l0, l1, l2, l3, l4] (.long x0.toInt64 :: s) h) ∧
  (∀ (P : Nat × Nat) (l0 : Option Value) (l1 : Option Value) (l2 : Option Value) (l3 : Option Value) (l4 : Option Value) (s : List Value) (h : am_H), am_E P 45 48 [l0, l1, l2, l3, l4] s h = am_E P 45 54 [l0, l1, l2, l3, l4] s h) ∧
  (∀ (P : Nat × Nat) (l0 : Option Value) (l1 : Option Value) (l2 : Option Value) (l3 : Option Value) (l4 : Option Value) (s : List Value) (h : am_H), am_E P 45 51 [l0, l1, l2, l3, l4] s h = am_E P 45 54 [l0, l1, l2, l3, l4] (.long (-9223372036854775808) :: s) h) ∧
  (∀ (P : Nat × Nat) (l0 : Option Value) (l1 : Option Value) (l2 : Option Value) (l3 : Option Value) (l4 : Option Value) (j0 : Int64) (h : am_H), am_E P 45 54 [l0, l1, l2, l3, l4] [.long j0] h = some (some (.long j0), h)) :=
  ⟨fun _ _ _ _ _ _ _ _ => er_go rfl rfl,
  fun _ _ _ _ _ _ _ => er_go rfl rfl,
  fun _ _ _ _ _ _ _ _ => er_go rfl rfl,
  fun _ _ _ _ _ _ _ _ _ => er_callV rfl rfl rfl rfl,
  fun _ _ _ _ _ _ _ _ _ => er_go rfl rfl,
  fun _ _ _ _ _ _ _ _ => er_go rfl rfl,
  fun _ _ _ _ _ _ _ _ => er_go rfl rfl,
  fun _ _ _ _ _ _ _ => er_go rfl rfl,
  fun _ _ _ _ _ _ _ _ _ => er_go rfl rfl,
  fun _ _ _ _ _ _ _ _ => er_go rfl rfl,
  fun _ _ _ _ _ _ _ _ => er_go rfl rfl,
  fun _ _ _ _ _ _ _ => er_go rfl rfl,
  fun _ _ _ _ _ _ _ _ _ => er_get1 rfl,
  fun _ _ _ _ _ _ _ _ _ => er_if_eq rfl,
  fun _ _ _ _ _ _ _ _ => er_go rfl rfl,
  fun _ _ _ _ _ _ _ _ => er_ret rfl rfl,
  fun _ _ _ _ _ _ _ _ => er_go rfl rfl,
  fun _ _ _ _ _ _ _ => er_go rfl rfl,
  fun _ _ _ _ _ _ _ _ _ => er_get1 rfl,
  fun _ _ _ _ _ _ _ _ => er_go rfl rfl,
  fun _ _ _ _ _ _ _ _ => er_go rfl rfl,
  fun _ _ _ _ _ _ _ _ _ _ => er_callV rfl rfl rfl rfl,
  fun _ _ _ _ _ _ _ _ _ => er_if_eq rfl,
  fun _ _ _ _ _ _ _ _ => er_go rfl rfl,
  fun _ _ _ _ _ _ _ => er_go rfl rfl,
  fun _ _ _ _ _ _ _ _ _ => er_get1 rfl,
  fun _ _ _ _ _ _ _ _ => er_go rfl rfl,
  fun _ _ _ _ _ _ _ _ => er_go rfl rfl,
  fun _ _ _ _ _ _ _ _ _ _ => er_callV rfl rfl rfl rfl,
  fun _ _ _ _ _ _ _ _ _ => er_go rfl rfl,
  fun _ _ _ _ _ _ _ _ => er_go rfl rfl,
  fun _ _ _ _ _ _ _ _ => er_go rfl rfl,
  fun _ _ _ _ _ _ _ _ => er_ret rfl rfl⟩
/-- TwoStepOutputs.last(III)J -/
theorem r46 : (∀ (P : Nat × Nat) (l1 : Option Value) (l2 : Option Value) (l3 : Option Value) (l4 : Option Value) (a0 : Nat) (s : List Value) (h : am_H), am_E P 46 0 [some (.ref a0), l1, l2, l3, l4] s h = am_E P 46 1 [some (.ref a0), l1, l2, l3, l4] (.ref a0 :: s) h) ∧
  (∀ (P : Nat × Nat) (l1 : Option Value) (l2 : Option Value) (l3 : Option Value) (l4 : Option Value) (s : List Value) (h : am_H), am_E P 46 0 [some .null, l1, l2, l3, l4] s h = am_E P 46 1 [some .null, l1, l2, l3, l4] (.null :: s) h) ∧
  (∀ (P : Nat × Nat) (l0 : Option Value) (l2 : Option Value) (l3 : Option Value) (l4 : Option Value) (x0 : Int32) (s : List Value) (h : am_H), am_E P 46 1 [l0, some (.int x0), l2, l3, l4] s h = am_E P 46 2 [l0, some (.int x0), l2, l3, l4] (.int x0 :: s) h) ∧
  (∀ (P : Nat × Nat) (l0 : Option Value) (l1 : Option Value) (l2 : Option Value) (l3 : Option Value) (l4 : Option Value) (a0 : Nat) (x0 : Int32) (h : am_H), am_E P 46 2 [l0, l1, l2, l3, l4] [.int x0, .ref a0] h = if am_cls h a0 = some 8 then (am_E P 53 0 [some (.ref a0), some (.int x0)] [] h).bind (fun q => am_E P 46 5 [l0, l1, l2, l3, l4] (q.1.toList ++ []) q.2) else none) ∧
  (∀ (P : Nat × Nat) (l0 : Option Value) (l1 : Option Value) (l2 : Option Value) (l3 : Option Value) (l4 : Option Value) (a0 : Nat) (s : List Value) (h : am_H), am_E P 46 5 [l0, l1, l2, l3, l4] (.ref a0 :: s) h = am_E P 46 7 [l0, l1, l2, l3, some (.ref a0)] s h) ∧
  (∀ (P : Nat × Nat) (l0 : Option Value) (l1 : Option Value) (l2 : Option Value) (l3 : Option Value) (l4 : Option Value) (s : List Value) (h : am_H), am_E P 46 5 [l0, l1, l2, l3, l4] (.null :: s) h = am_E P 46 7 [l0, l1, l2, l3, some .null] s h) ∧
  (∀ (P : Nat × Nat) (l0 : Option Value) (l1 : Option Value) (l2 : Option Value) (l3 : Option Value) (a0 : Nat) (s : List Value) (h : am_H), am_E P 46 7 [l0, l1, l2, l3, some (.ref a0)] s h = am_E P 46 9 [l0, l1, l2, l3, some (.ref a0)] (.ref a0 :: s) h) ∧
  (∀ (P : Nat × Nat) (l0 : Option Value) (l1 : Option Value) (l2 : Option Value) (l3 : Option Value) (s : List Value) (h : am_H), am_E P 46 7 [l0, l1, l2, l3, some .null] s h = am_E P 46 9 [l0, l1, l2, l3, some .null] (.null :: s) h) ∧
  (∀ (P : Nat × Nat) (l0 : Option Value) (l1 : Option Value) (l2 : Option Value) (l3 : Option Value) (l4 : Option Value) (a0 : Nat) (s : List Value) (h : am_H), am_E P 46 9 [l0, l1, l2, l3, l4] (.ref a0 :: s) h = am_E P 46 12 [l0, l1, l2, l3, l4] s h) ∧
  (∀ (P : Nat × Nat) (l0 : Option Value) (l1 : Option Value) (l2 : Option Value) (l3 : Option Value) (l4 : Option Value) (s : List Value) (h : am_H), am_E P 46 9 [l0, l1, l2, l3, l4] (.null :: s) h = am_E P 46 33 [l0, l1, l2, l3, l4] s h) ∧
  (∀ (P : Nat × Nat) (l0 : Option Value) (l1 : Option Value) (l2 : Option Value) (l3 : Option Value) (a0 : Nat) (s : List Value) (h : am_H), am_E P 46 12 [l0, l1, l2, l3, some (.ref a0)] s h = am_E P 46 14 [l0, l1, l2, l3, some (.ref a0)] (.ref a0 :: s) h) ∧
  (∀ (P : Nat × Nat) (l0 : Option Value) (l1 : Option Value) (l2 : Option Value) (l3 : Option Value) (s : List Value) (h : am_H), am_E P 46 12 [l0, l1, l2, l3, some .null] s h = am_E P 46 14 [l0, l1, l2, l3, some .null] (.null :: s) h) ∧
  (∀ (P : Nat × Nat) (l0 : Option Value) (l1 : Option Value) (l2 : Option Value) (l3 : Option Value) (l4 : Option Value) (a0 : Nat) (s : List Value) (h : am_H), am_E P 46 14 [l0, l1, l2, l3, l4] (.ref a0 :: s) h = (am_g1 h a0 4 1).bind (fun v => am_E P 46 17 [l0, l1, l2, l3, l4] (v :: s) h)) ∧
  (∀ (P : Nat × Nat) (l0 : Option Value) (l1 : Option Value) (l2 : Option Value) (l3 : Option Value) (l4 : Option Value) (s : List Value) (h : am_H), am_E P 46 17 [l0, l1, l2, l3, l4] s h = am_E P 46 18 [l0, l1, l2, l3, l4] (.int 1 :: s) h) ∧
  (∀ (P : Nat × Nat) (l0 : Option Value) (l1 : Option Value) (l2 : Option Value) (l3 : Option Value) (l4 : Option Value) (x0 : Int32) (x1 : Int32) (s : List Value) (h : am_H), am_E P 46 18 [l0, l1, l2, l3, l4] (.int x1 :: .int x0 :: s) h = if x0 = x1 then am_E P 46 21 [l0, l1, l2, l3, l4] s h else am_E P 46 33 [l0, l1, l2, l3, l4] s h) ∧
  (∀ (P : Nat × Nat) (l0 : Option Value) (l1 : Option Value) (l2 : Option Value) (l3 : Option Value) (a0 : Nat) (s : List Value) (h : am_H), am_E P 46 21 [l0, l1, l2, l3, some (.ref a0)] s h = am_E P 46 23 [l0, l1, l2, l3, some (.ref a0)] (.ref a0 :: s) h) ∧
  (∀ (P : Nat × Nat) (l0 : Option Value) (l1 : Option Value) (l2 : Option Value) (l3 : Option Value) (s : List Value) (h : am_H), am_E P 46 21 [l0, l1, l2, l3, some .null] s h = am_E P 46 23 [l0, l1, l2, l3, some .null] (.null :: s) h) ∧
  (∀ (P : Nat × Nat) (l0 : Option Value) (l1 : Option Value) (l2 : Option Value) (l3 : Option Value) (l4 : Option Value) (a0 : Nat) (s : List Value) (h : am_H), am_E P 46 23 [l0, l1, l2, l3, l4] (.ref a0 :: s) h = (am_g1 h a0 4 9).bind (fun v => am_E P 46 26 [l0, l1, l2, l3, l4] (v :: s) h)) ∧
  (∀ (P : Nat × Nat) (l0 : Option Value) (l1 : Option Value) (l3 : Option Value) (l4 : Option Value) (x0 : Int32) (s : List Value) (h : am_H), am_E P 46 26 [l0, l1, some (.int x0), l3, l4] s h = am_E P 46 27 [l0, l1, some (.int x0), l3, l4] (.int x0 :: s) h) ∧
  (∀ (P : Nat × Nat) (l0 : Option Value) (l1 : Option Value) (l2 : Option Value) (l3 : Option Value) (l4 : Option Value) (a0 : Nat) (x0 : Int32) (h : am_H), am_E P 46 27 [l0, l1, l2, l3, l4] [.int x0, .ref a0] h = if am_cls h a0 = some 7 then (am_E P 30 0 [some (.ref a0), some (.int x0)] [] h).bind (fun q => am_E P 46 30 [l0, l1, l2, l3, l4] (q.1.toList ++ []) q.2) else none) ∧
  (∀ (P : Nat × Nat) (l0 : Option Value) (l1 : Option Value) (l2 : Option Value) (l3 : Option Value) (l4 : Option Value) (x0 : Int32) (s : List Value) (h : am_H), am_E P 46 30 [l0, l1, l2, l3, l4] (.int x0 :: s) h = if x0 = 0 then am_E P 46 33 [l0, l1, l2, l3, l4] s h else am_E P 46 37 [l0, l1, l2, l3, l4] s h) ∧
  (∀ (P : Nat × Nat) (l0 : Option Value) (l1 : Option Value) (l2 : Option Value) (l3 : Option Value) (l4 : Option Value) (s : List Value) (h : am_H), am_E P 46 33 [l0, l1, l2, l3, l4] s h = am_E P 46 36 [l0, l1, l2, l3, l4] (.long (-9223372036854775808) :: s) h) ∧
  (∀ (P : Nat × Nat) (l0 : Option Value) (l1 : Option Value) (l2 : Option Value) (l3 : Option Value) (l4 : Option Value) (j0 : Int64) (h : am_H), am_E P 46 36 [l0, l1, l2, l3, l4] [.long j0] h = some (some (.long j0), h)) ∧
  (∀ (P : Nat × Nat) (l0 : Option Value) (l1 : Option Value) (l2 : Option Value) (l4 : Option Value) (x0 : Int32) (s : List Value) (h : am_H), am_E P 46 37 [l0, l1, l2, some (.int x0), l4] s h = am_E P 46 38 [l0, l1, l2, some (.int x0), l4] (.int x0 :: s) h) ∧
  (∀ (P : Nat × Nat) (l0 : Option Value) (l1 : Option Value) (l2 : Option Value) (l3 : Option Value) (l4 : Option Value) (x0 : Int32) (s : List Value) (h : am_H), am_E P 46 38 [l0, l1, l2, l3, l4] (.int x0 :: s) h = if x0 = 0 then am_E P 46 64 [l0, l1, l2, l3, l4] s h else if x0 = 1 then am_E P 46 76 [l0, l1, l2, l3, l4] s h else if x0 = 2 then am_E P 46 88 [l0, l1, l2, l3, l4] s h else am_E P 46 100 [l0, l1, l2, l3, l4] s h) ∧
  (∀ (P : Nat × Nat) (l0 : Option Value) (l1 : Option Value) (l2 : Option Value) (l3 : Option Value) (a0 : Nat) (s : List Value) (h : am_H), am_E P 46 64 [l0, l1, l2, l3, some (.ref a0)] s h = am_E P 46 66 [l0, l1, l2, l3, some (.ref a0)] (.ref a0 :: s) h) ∧
  (∀ (P : Nat × Nat) (l0 : Option Value) (l1 : Option Value) (l2 : Option Value) (l3 : Option Value) (s : List Value) (h : am_H), am_E P 46 64 [l0, l1, l2, l3, some .null] s h = am_E P 46 66 [l0, l1, l2, l3, some .null] (.null :: s) h) ∧
  (∀ (P : Nat × Nat) (l0 : Option Value) (l1 : Option Value) (l2 : Option Value) (l3 : Option Value) (l4 : Option Value) (a0 : Nat) (s : List Value) (h : am_H), am_E P 46 66 [l0, l1, l2, l3, l4] (.ref a0 :: s) h = (am_g1 h a0 4 9).bind (fun v => am_E P 46 69 [l0, l1, l2, l3, l4] (v :: s) h)) ∧
  (∀ (P : Nat × Nat) (l0 : Option Value) (l1 : Option Value) (l2 : Option Value) (l3 : Option Value) (l4 : Option Value) (a0 : Nat) (s : List Value) (h : am_H), am_E P 46 69 [l0, l1, l2, l3, l4] (.ref a0 :: s) h = (am_g1 h a0 7 0).bind (fun v => am_E P 46 72 [l0, l1, l2, l3, l4] (v :: s) h)) ∧
  (∀ (P : Nat × Nat) (l0 : Option Value) (l1 : Option Value) (l3 : Option Value) (l4 : Option Value) (x0 : Int32) (s : List Value) (h : am_H), am_E P 46 72 [l0, l1, some (.int x0), l3, l4] s h = am_E P 46 73 [l0, l1, some (.int x0), l3, l4] (.int x0 :: s) h) ∧
  (∀ (P : Nat × Nat) (l0 : Option Value) (l1 : Option Value) (l2 : Option Value) (l3 : Option Value) (l4 : Option Value) (x0 : Int32) (a0 : Nat) (s : List Value) (h : am_H), am_E P 46 73 [l0, l1, l2, l3, l4] (.int x0 :: .ref a0 :: s) h = (am_iald h a0 x0).bind (fun v => am_E P 46 74 [l0, l1, l2, l3, l4] (.int v :: s) h)) ∧
  (∀ (P : Nat × Nat) (l0 : Option Value) (l1 : Option Value) (l2 : Option Value) (l3 : Option Value) (l4 : Option Value) (x0 : Int32) (s : List Value) (h : am_H), am_E P 46 74 [l0, l1, l2, l3, l4] (.int x0 :: s) h = am_E P 46 75 [l0, l1, l2, l3, l4] (.long x0.toInt64 :: s) h) ∧
  (∀ (P : Nat × Nat) (l0 : Option Value) (l1 : Option Value) (l2 : Option Value) (l3 : Option Value) (l4 : Option Value) (j0 : Int64) (h : am_H), am_E P 46 75 [l0, l1, l2, l3, l4] [.long j0] h = some (some (.long j0), h)) ∧
  (∀ (P : Nat × Nat) (l0 : Option Value) (l1 : Option Value) (l2 : Option Value) (l3 : Option Value) (a0 : Nat) (s : List Value) (h : am_H), am_E P 46 76 [l0, l1, l2, l3, some (.ref a0)] s h = am_E P 46 78 [l0, l1, l2, l3, some (.ref a0)] (.ref a0 :: s) h) ∧
  (∀ (P : Nat × Nat) (l0 : Option Value) (l1 : Option Value) (l2 : Option Value) (l3 : Option Value) (s : List Value) (h : am_H), am_E P 46 76 [l0, l1, l2, l3, some .null] s h = am_E P 46 78 [l0, l1, l2, l3, some .null] (.null :: s) h) ∧
  (∀ (P : Nat × Nat) (l0 : Option Value) (l1 : Option Value) (l2 : Option Value) (l3 : Option Value) (l4 : Option Value) (a0 : Nat) (s : List Value) (h : am_H), am_E P 46 78 [l0, l1, l2, l3, l4] (.ref a0 :: s) h = (am_g1 h a0 4 9).bind (fun v => am_E P 46 81 [l0, l1, l2, l3, l4] (v :: s) h)) ∧
  (∀ (P : Nat × Nat) (l0 : Option Value) (l1 : Option Value) (l2 : Option Value) (l3 : Option Value) (l4 : Option Value) (a0 : Nat) (s : List Value) (h : am_H), am_E P 46 81 [l0, l1, l2, l3, l4] (.ref a0 :: s) h = (am_g1 h a0 7 1).bind (fun v => am_E P 46 84 [l0, l1, l2, l3, l4] (v :: s) h)) ∧
  (∀ (P : Nat × Nat) (l0 : Option Value) (l1 : Option Value) (l3 : Option Value) (l4 : Option Value) (x0 : Int32) (s : List Value) (h : am_H), am_E P 46 84 [l0, l1, some (.int x0), l3, l4] s h = am_E P 46 85 [l0, l1, some (.int x0), l3, l4] (.int x0 :: s) h) ∧
  (∀ (P : Nat × Nat) (l0 : Option Value) (l1 : Option Value) (l2 : Option Value) (l3 : Option Value) (l4 : Option Value) (x0 : Int32) (a0 : Nat) (s : List Value) (h : am_H), am_E P 46 85 [l0, l1, l2, l3, l4] (.int x0 :: .ref a0 :: s) h = (am_iald h a0 x0).bind (fun v => am_E P 46 86 [l0, l1, l2, l3, l4] (.int v :: s) h)) ∧
  (∀ (P : Nat × Nat) (l0 : Option Value) (l1 : Option Value) (l2 : Option Value) (l3 : Option Value) (l4 : Option Value) (x0 : Int32) (s : List Value) (h : am_H), am_E P 46 86 [l0, l1, l2, l3, l4] (.int x0 :: s) h = am_E P 46 87 [l0, l1, l2, l3, l4] (.long x0.toInt64 :: s) h) ∧
  (∀ (P : Nat × Nat) (l0 : Option Value) (l1 : Option Value) (l2 : Option Value) (l3 : Option Value) (l4 : Option Value) (j0 : Int64) (h : am_H), am_E P 46 87 [l0, l1, l2, l3, l4] [.long j0] h = some (some (.long j0), h)) ∧
  (∀ (P : Nat × Nat) (l0 : Option Value) (l1 : Option Value) (l2 : Option Value) (l3 : Option Value) (a0 : Nat) (s : List Value) (h : am_H), am_E P 46 88 [l0, l1, l2, l3, some (.ref a0)] s h = am_E P 46 90 [l0, l1, l2, l3, some (.ref a0)] (.ref a0 :: s) h) ∧
  (∀ (P : Nat × Nat) (l0 : Option Value) (l1 : Option Value) (l2 : Option Value) (l3 : Option Value) (s : List Value) (h : am_H), am_E P 46 88 [l0, l1, l2, l3, some .null] s h = am_E P 46 90 [l0, l1, l2, l3, some .null] (.null :: s) h) ∧
  (∀ (P : Nat × Nat) (l0 : Option Value) (l1 : Option Value) (l2 : Option Value) (l3 : Option Value) (l4 : Option Value) (a0 : Nat) (s : List Value) (h : am_H), am_E P 46 90 [l0, l1, l2, l3, l4] (.ref a0 :: s) h = (am_g1 h a0 4 9).bind (fun v => am_E P 46 93 [l0, l1, l2, l3, l4] (v :: s) h)) ∧
  (∀ (P : Nat × Nat) (l0 : Option Value) (l1 : Option Value) (l2 : Option Value) (l3 : Option Value) (l4 : Option Value) (a0 : Nat) (s : List Value) (h : am_H), am_E P 46 93 [l0, l1, l2, l3, l4] (.ref a0 :: s) h = (am_g1 h a0 7 2).bind (fun v => am_E P 46 96 [l0, l1, l2, l3, l4] (v :: s) h)) ∧
  (∀ (P : Nat × Nat) (l0 : Option Value) (l1 : Option Value) (l3 : Option Value) (l4 : Option Value) (x0 : Int32) (s : List Value) (h : am_H), am_E P 46 96 [l0, l1, some (.int x0), l3, l4] s h = am_E P 46 97 [l0, l1, some (.int x0), l3, l4] (.int x0 :: s) h) ∧
  (∀ (P : Nat × Nat) (l0 : Option Value) (l1 : Option Value) (l2 : Option Value) (l3 : Option Value) (l4 : Option Value) (x0 : Int32) (a0 : Nat) (s : List Value) (h : am_H), am_E P 46 97 [l0, l1, l2, l3, l4] (.int x0 :: .ref a0 :: s) h = (am_iald h a0 x0).bind (fun v => am_E P 46 98 [l0, l1, l2, l3, l4] (.int v :: s) h)) ∧
  (∀ (P : Nat × Nat) (l0 : Option Value) (l1 : Option Value) (l2 : Option Value) (l3 : Option Value) (l4 : Option Value) (x0 : Int32) (s : List Value) (h : am_H), am_E P 46 98 [l0, l1, l2, l3, l4] (.int x0 :: s) h = am_E P 46 99 [l0, l1, l2, l3, l4] (.long x0.toInt64 :: s) h) ∧
  (∀ (P : Nat × Nat) (l0 : Option Value) (l1 : Option Value) (l2 : Option Value) (l3 : Option Value) (l4 : Option Value) (j0 : Int64) (h : am_H), am_E P 46 99 [l0, l1, l2, l3, l4] [.long j0] h = some (some (.long j0), h)) ∧
  (∀ (P : Nat × Nat) (l0 : Option Value) (l1 : Option Value) (l2 : Option Value) (l3 : Option Value) (l4 : Option Value) (s : List Value) (h : am_H), am_E P 46 100 [l0, l1, l2, l3, l4] s h = am_E P 46 103 [l0, l1, l2, l3, l4] (.long (-9223372036854775808) :: s) h) ∧
  (∀ (P : Nat × Nat) (l0 : Option Value) (l1 : Option Value) (l2 : Option Value) (l3 : Option Value) (l4 : Option Value) (j0 : Int64) (h : am_H), am_E P 46 103 [l0, l1, l2, l3, l4] [.long j0] h = some (some (.long j0), h)) :=
  ⟨fun _ _ _ _ _ _ _ _ => er_go rfl rfl,
  fun _ _ _ _ _ _ _ => er_go rfl rfl,
  fun _ _ _ _ _ _ _ _ => er_go rfl rfl,
  fun _ _ _ _ _ _ _ _ _ => er_callV rfl rfl rfl rfl,
  fun _ _ _ _ _ _ _ _ _ => er_go rfl rfl,
  fun _ _ _ _ _ _ _ _ => er_go rfl rfl,
  fun _ _ _ _ _ _ _ _ => er_go rfl rfl,
  fun _ _ _ _ _ _ _ => er_go rfl rfl,
  fun _ _ _ _ _ _ _ _ _ => er_go rfl rfl,
  fun _ _ _ _ _ _ _ _ => er_go rfl rfl,
  fun _ _ _ _ _ _ _ _ => er_go rfl rfl,
  fun _ _ _ _ _ _ _ => er_go rfl rfl,
  fun _ _ _ _ _ _ _ _ _ => er_get1 rfl,
  fun _ _ _ _ _ _ _ _ => er_go rfl rfl,
  fun _ _ _ _ _ _ _ _ _ _ => er_ic_ne rfl,
  fun _ _ _ _ _ _ _ _ => er_go rfl rfl,
  fun _ _ _ _ _ _ _ => er_go rfl rfl,
  fun _ _ _ _ _ _ _ _ _ => er_get1 rfl,
  fun _ _ _ _ _ _ _ _ => er_go rfl rfl,
  fun _ _ _ _ _ _ _ _ _ => er_callV rfl rfl rfl rfl,
  fun _ _ _ _ _ _ _ _ _ => er_if_ne rfl,
  fun _ _ _ _ _ _ _ _ => er_go rfl rfl,
  fun _ _ _ _ _ _ _ _ => er_ret rfl rfl,
  fun _ _ _ _ _ _ _ _ => er_go rfl rfl,
  fun _ _ _ _ _ _ _ _ _ => er_sw rfl rfl rfl,
  fun _ _ _ _ _ _ _ _ => er_go rfl rfl,
  fun _ _ _ _ _ _ _ => er_go rfl rfl,
  fun _ _ _ _ _ _ _ _ _ => er_get1 rfl,
  fun _ _ _ _ _ _ _ _ _ => er_get1 rfl,
  fun _ _ _ _ _ _ _ _ => er_go rfl rfl,
  fun _ _ _ _ _ _ _ _ _ _ => er_iald rfl,
  fun _ _ _ _ _ _ _ _ _ => er_go rfl rfl,
  fun _ _ _ _ _ _ _ _ => er_ret rfl rfl,
  fun _ _ _ _ _ _ _ _ => er_go rfl rfl,
  fun _ _ _ _ _ _ _ => er_go rfl rfl,
  fun _ _ _ _ _ _ _ _ _ => er_get1 rfl,
  fun _ _ _ _ _ _ _ _ _ => er_get1 rfl,
  fun _ _ _ _ _ _ _ _ => er_go rfl rfl,
  fun _ _ _ _ _ _ _ _ _ _ => er_iald rfl,
  fun _ _ _ _ _ _ _ _ _ => er_go rfl rfl,
  fun _ _ _ _ _ _ _ _ => er_ret rfl rfl,
  fun _ _ _ _ _ _ _ _ => er_go rfl rfl,
  fun _ _ _ _ _ _ _ => er_go rfl rfl,
  fun _ _ _ _ _ _ _ _ _ => er_get1 rfl,
  fun _ _ _ _ _ _ _ _ _ => er_get1 rfl,
  fun _ _ _ _ _ _ _ _ => er_go rfl rfl,
  fun _ _ _ _ _ _ _ _ _ _ => er_iald rfl,
  fun _ _ _ _ _ _ _ _ _ => er_go rfl rfl,
  fun _ _ _ _ _ _ _ _ => er_ret rfl rfl,
  fun _ _ _ _ _ _ _ _ => er_go rfl rfl,
  fun _ _ _ _ _ _ _ _ => er_ret rfl rfl⟩
/-- TwoStepOutputs.reader(I)I -/
theorem r47 : (∀ (P : Nat × Nat) (l1 : Option Value) (l2 : Option Value) (a0 : Nat) (s : List Value) (h : am_H), am_E P 47 0 [some (.ref a0), l1, l2] s h = am_E P 47 1 [some (.ref a0), l1, l2] (.ref a0 :: s) h) ∧
  (∀ (P : Nat × Nat) (l1 : Option Value) (l2 : Option Value) (s : List Value) (h : am_H), am_E P 47 0 [some .null, l1, l2] s h = am_E P 47 1 [some .null, l1, l2] (.null :: s) h) ∧
  (∀ (P : Nat × Nat) (l0 : Option Value) (l2 : Option Value) (x0 : Int32) (s : List Value) (h : am_H), am_E P 47 1 [l0, some (.int x0), l2] s h = am_E P 47 2 [l0, some (.int x0), l2] (.int x0 :: s) h) ∧
  (∀ (P : Nat × Nat) (l0 : Option Value) (l1 : Option Value) (l2 : Option Value) (a0 : Nat) (x0 : Int32) (h : am_H), am_E P 47 2 [l0, l1, l2] [.int x0, .ref a0] h = if am_cls h a0 = some 8 then (am_E P 53 0 [some (.ref a0), some (.int x0)] [] h).bind (fun q => am_E P 47 5 [l0, l1, l2] (q.1.toList ++ []) q.2) else none) ∧
  (∀ (P : Nat × Nat) (l0 : Option Value) (l1 : Option Value) (l2 : Option Value) (a0 : Nat) (s : List Value) (h : am_H), am_E P 47 5 [l0, l1, l2] (.ref a0 :: s) h = am_E P 47 6 [l0, l1, some (.ref a0)] s h) ∧
  (∀ (P : Nat × Nat) (l0 : Option Value) (l1 : Option Value) (l2 : Option Value) (s : List Value) (h : am_H), am_E P 47 5 [l0, l1, l2] (.null :: s) h = am_E P 47 6 [l0, l1, some .null] s h) ∧
  (∀ (P : Nat × Nat) (l0 : Option Value) (l1 : Option Value) (a0 : Nat) (s : List Value) (h : am_H), am_E P 47 6 [l0, l1, some (.ref a0)] s h = am_E P 47 7 [l0, l1, some (.ref a0)] (.ref a0 :: s) h) ∧
  (∀ (P : Nat × Nat) (l0 : Option Value) (l1 : Option Value) (s : List Value) (h : am_H), am_E P 47 6 [l0, l1, some .null] s h = am_E P 47 7 [l0, l1, some .null] (.null :: s) h) ∧
  (∀ (P : Nat × Nat) (l0 : Option Value) (l1 : Option Value) (l2 : Option Value) (a0 : Nat) (s : List Value) (h : am_H), am_E P 47 7 [l0, l1, l2] (.ref a0 :: s) h = am_E P 47 12 [l0, l1, l2] s h) ∧
  (∀ (P : Nat × Nat) (l0 : Option Value) (l1 : Option Value) (l2 : Option Value) (s : List Value) (h : am_H), am_E P 47 7 [l0, l1, l2] (.null :: s) h = am_E P 47 10 [l0, l1, l2] s h) ∧
  (∀ (P : Nat × Nat) (l0 : Option Value) (l1 : Option Value) (l2 : Option Value) (s : List Value) (h : am_H), am_E P 47 10 [l0, l1, l2] s h = am_E P 47 11 [l0, l1, l2] (.int (-1) :: s) h) ∧
  (∀ (P : Nat × Nat) (l0 : Option Value) (l1 : Option Value) (l2 : Option Value) (x0 : Int32) (h : am_H), am_E P 47 11 [l0, l1, l2] [.int x0] h = some (some (.int x0), h)) ∧
  (∀ (P : Nat × Nat) (l0 : Option Value) (l1 : Option Value) (a0 : Nat) (s : List Value) (h : am_H), am_E P 47 12 [l0, l1, some (.ref a0)] s h = am_E P 47 13 [l0, l1, some (.ref a0)] (.ref a0 :: s) h) ∧
  (∀ (P : Nat × Nat) (l0 : Option Value) (l1 : Option Value) (s : List Value) (h : am_H), am_E P 47 12 [l0, l1, some .null] s h = am_E P 47 13 [l0, l1, some .null] (.null :: s) h) ∧
  (∀ (P : Nat × Nat) (l0 : Option Value) (l1 : Option Value) (l2 : Option Value) (a0 : Nat) (s : List Value) (h : am_H), am_E P 47 13 [l0, l1, l2] (.ref a0 :: s) h = (am_g1 h a0 4 1).bind (fun v => am_E P 47 16 [l0, l1, l2] (v :: s) h)) ∧
  (∀ (P : Nat × Nat) (l0 : Option Value) (l1 : Option Value) (l2 : Option Value) (x0 : Int32) (s : List Value) (h : am_H), am_E P 47 16 [l0, l1, l2] (.int x0 :: s) h = if x0 = 0 then am_E P 47 22 [l0, l1, l2] s h else am_E P 47 19 [l0, l1, l2] s h) ∧
  (∀ (P : Nat × Nat) (l0 : Option Value) (l1 : Option Value) (l2 : Option Value) (s : List Value) (h : am_H), am_E P 47 19 [l0, l1, l2] s h = am_E P 47 21 [l0, l1, l2] (.int (-3) :: s) h) ∧
  (∀ (P : Nat × Nat) (l0 : Option Value) (l1 : Option Value) (l2 : Option Value) (x0 : Int32) (h : am_H), am_E P 47 21 [l0, l1, l2] [.int x0] h = some (some (.int x0), h)) ∧
  (∀ (P : Nat × Nat) (l1 : Option Value) (l2 : Option Value) (a0 : Nat) (s : List Value) (h : am_H), am_E P 47 22 [some (.ref a0), l1, l2] s h = am_E P 47 23 [some (.ref a0), l1, l2] (.ref a0 :: s) h) ∧
  (∀ (P : Nat × Nat) (l1 : Option Value) (l2 : Option Value) (s : List Value) (h : am_H), am_E P 47 22 [some .null, l1, l2] s h = am_E P 47 23 [some .null, l1, l2] (.null :: s) h) ∧
  (∀ (P : Nat × Nat) (l0 : Option Value) (l1 : Option Value) (l2 : Option Value) (a0 : Nat) (s : List Value) (h : am_H), am_E P 47 23 [l0, l1, l2] (.ref a0 :: s) h = (am_g1 h a0 8 1).bind (fun v => am_E P 47 26 [l0, l1, l2] (v :: s) h)) ∧
  (∀ (P : Nat × Nat) (l0 : Option Value) (l1 : Option Value) (l2 : Option Value) (a0 : Nat) (h : am_H), am_E P 47 26 [l0, l1, l2] [.ref a0] h = if am_cls h a0 = some 0 then (am_E P 118 0 [some (.ref a0)] [] h).bind (fun q => am_E P 47 29 [l0, l1, l2] (q.1.toList ++ []) q.2) else none) ∧
  (∀ (P : Nat × Nat) (l0 : Option Value) (l1 : Option Value) (l2 : Option Value) (s : List Value) (h : am_H), am_E P 47 29 [l0, l1, l2] s h = am_E P 47 30 [l0, l1, l2] (.int 4 :: s) h) ∧
  (∀ (P : Nat × Nat) (l0 : Option Value) (l1 : Option Value) (l2 : Option Value) (x0 : Int32) (x1 : Int32) (s : List Value) (h : am_H), am_E P 47 30 [l0, l1, l2] (.int x1 :: .int x0 :: s) h = if x0 < x1 then am_E P 47 36 [l0, l1, l2] s h else am_E P 47 33 [l0, l1, l2] s h) ∧
  (∀ (P : Nat × Nat) (l0 : Option Value) (l1 : Option Value) (l2 : Option Value) (s : List Value) (h : am_H), am_E P 47 33 [l0, l1, l2] s h = am_E P 47 35 [l0, l1, l2] (.int (-4) :: s) h) ∧
  (∀ (P : Nat × Nat) (l0 : Option Value) (l1 : Option Value) (l2 : Option Value) (x0 : Int32) (h : am_H), am_E P 47 35 [l0, l1, l2] [.int x0] h = some (some (.int x0), h)) ∧
  (∀ (P : Nat × Nat) (l1 : Option Value) (l2 : Option Value) (a0 : Nat) (s : List Value) (h : am_H), am_E P 47 36 [some (.ref a0), l1, l2] s h = am_E P 47 37 [some (.ref a0), l1, l2] (.ref a0 :: s) h) ∧
  (∀ (P : Nat × Nat) (l1 : Option Value) (l2 : Option Value) (s : List Value) (h : am_H), am_E P 47 36 [some .null, l1, l2] s h = am_E P 47 37 [some .null, l1, l2] (.null :: s) h) ∧
  (∀ (P : Nat × Nat) (l0 : Option Value) (l1 : Option Value) (l2 : Option Value) (a0 : Nat) (s : List Value) (h : am_H), am_E P 47 37 [l0, l1, l2] (.ref a0 :: s) h = (am_g1 h a0 8 1).bind (fun v => am_E P 47 40 [l0, l1, l2] (v :: s) h)) ∧
  (∀ (P : Nat × Nat) (l0 : Option Value) (l1 : Option Value) (l2 : Option Value) (s : List Value) (h : am_H), am_E P 47 40 [l0, l1, l2] s h = am_E P 47 43 [l0, l1, l2] (.ref h.1 :: s) (ah_new h 3 (ac_O 6 [.null, .null, .int 0]))) ∧
  (∀ (P : Nat × Nat) (l0 : Option Value) (l1 : Option Value) (l2 : Option Value) (a0 : Nat) (s : List Value) (h : am_H), am_E P 47 43 [l0, l1, l2] (.ref a0 :: s) h = am_E P 47 44 [l0, l1, l2] (.ref a0 :: .ref a0 :: s) h) ∧
  (∀ (P : Nat × Nat) (l0 : Option Value) (l1 : Option Value) (a0 : Nat) (s : List Value) (h : am_H), am_E P 47 44 [l0, l1, some (.ref a0)] s h = am_E P 47 45 [l0, l1, some (.ref a0)] (.ref a0 :: s) h) ∧
  (∀ (P : Nat × Nat) (l0 : Option Value) (l1 : Option Value) (s : List Value) (h : am_H), am_E P 47 44 [l0, l1, some .null] s h = am_E P 47 45 [l0, l1, some .null] (.null :: s) h) ∧
  (∀ (P : Nat × Nat) (l0 : Option Value) (l1 : Option Value) (l2 : Option Value) (a0 : Nat) (s : List Value) (h : am_H), am_E P 47 45 [l0, l1, l2] (.ref a0 :: s) h = (am_g1 h a0 4 8).bind (fun v => am_E P 47 48 [l0, l1, l2] (v :: s) h)) ∧
  (∀ (P : Nat × Nat) (l0 : Option Value) (l1 : Option Value) (l2 : Option Value) (a0 : Nat) (a1 : Nat) (v0 : Value) (v1 : Value) (h : am_H), am_E P 47 48 [l0, l1, l2] [.ref a1, .ref a0, v0, v1] h = (am_E P 21 0 [some (.ref a0), some (.ref a1)] [] h).bind (fun q => am_E P 47 51 [l0, l1, l2] (q.1.toList ++ [v0, v1]) q.2)) ∧
  (∀ (P : Nat × Nat) (l0 : Option Value) (l1 : Option Value) (l2 : Option Value) (a0 : Nat) (a1 : Nat) (h : am_H), am_E P 47 51 [l0, l1, l2] [.ref a1, .ref a0] h = if am_cls h a0 = some 0 then (am_E P 122 0 [some (.ref a0), some (.ref a1)] [] h).bind (fun q => am_E P 47 54 [l0, l1, l2] (q.1.toList ++ []) q.2) else none) ∧
  (∀ (P : Nat × Nat) (l0 : Option Value) (l1 : Option Value) (l2 : Option Value) (x0 : Int32) (s : List Value) (h : am_H), am_E P 47 54 [l0, l1, l2] (.int x0 :: s) h = am_E P 47 55 [l0, l1, l2] s h) ∧
  (∀ (P : Nat × Nat) (l1 : Option Value) (l2 : Option Value) (a0 : Nat) (s : List Value) (h : am_H), am_E P 47 55 [some (.ref a0), l1, l2] s h = am_E P 47 56 [some (.ref a0), l1, l2] (.ref a0 :: s) h) ∧
  (∀ (P : Nat × Nat) (l1 : Option Value) (l2 : Option Value) (s : List Value) (h : am_H), am_E P 47 55 [some .null, l1, l2] s h = am_E P 47 56 [some .null, l1, l2] (.null :: s) h) ∧
  (∀ (P : Nat × Nat) (l0 : Option Value) (l1 : Option Value) (l2 : Option Value) (a0 : Nat) (s : List Value) (h : am_H), am_E P 47 56 [l0, l1, l2] (.ref a0 :: s) h = (am_g1 h a0 8 1).bind (fun v => am_E P 47 59 [l0, l1, l2] (v :: s) h)) ∧
  (∀ (P : Nat × Nat) (l0 : Option Value) (l1 : Option Value) (l2 : Option Value) (a0 : Nat) (h : am_H), am_E P 47 59 [l0, l1, l2] [.ref a0] h = if am_cls h a0 = some 0 then (am_E P 118 0 [some (.ref a0)] [] h).bind (fun q => am_E P 47 62 [l0, l1, l2] (q.1.toList ++ []) q.2) else none) ∧
  (∀ (P : Nat × Nat) (l0 : Option Value) (l1 : Option Value) (l2 : Option Value) (s : List Value) (h : am_H), am_E P 47 62 [l0, l1, l2] s h = am_E P 47 63 [l0, l1, l2] (.int 1 :: s) h) ∧
  (∀ (P : Nat × Nat) (l0 : Option Value) (l1 : Option Value) (l2 : Option Value) (x0 : Int32) (x1 : Int32) (s : List Value) (h : am_H), am_E P 47 63 [l0, l1, l2] (.int x1 :: .int x0 :: s) h = am_E P 47 64 [l0, l1, l2] (.int (x0 - x1) :: s) h) ∧
  (∀ (P : Nat × Nat) (l0 : Option Value) (l1 : Option Value) (l2 : Option Value) (x0 : Int32) (h : am_H), am_E P 47 64 [l0, l1, l2] [.int x0] h = some (some (.int x0), h)) :=
  ⟨fun _ _ _ _ _ _ => er_go rfl rfl,
  fun _ _ _ _ _ => er_go rfl rfl,
  fun _ _ _ _ _ _ => er_go rfl rfl,
  fun _ _ _ _ _ _ _ => er_callV rfl rfl rfl rfl,
  fun _ _ _ _ _ _ _ => er_go rfl rfl,
  fun _ _ _ _ _ _ => er_go rfl rfl,
  fun _ _ _ _ _ _ => er_go rfl rfl,
  fun _ _ _ _ _ => er_go rfl rfl,
  fun _ _ _ _ _ _ _ => er_go rfl rfl,
  fun _ _ _ _ _ _ => er_go rfl rfl,
  fun _ _ _ _ _ _ => er_go rfl rfl,
  fun _ _ _ _ _ _ => er_ret rfl rfl,
  fun _ _ _ _ _ _ => er_go rfl rfl,
  fun _ _ _ _ _ => er_go rfl rfl,
  fun _ _ _ _ _ _ _ => er_get1 rfl,
  fun _ _ _ _ _ _ _ => er_if_eq rfl,
  fun _ _ _ _ _ _ => er_go rfl rfl,
  fun _ _ _ _ _ _ => er_ret rfl rfl,
  fun _ _ _ _ _ _ => er_go rfl rfl,
  fun _ _ _ _ _ => er_go rfl rfl,
  fun _ _ _ _ _ _ _ => er_get1 rfl,
  fun _ _ _ _ _ _ => er_callV rfl rfl rfl rfl,
  fun _ _ _ _ _ _ => er_go rfl rfl,
  fun _ _ _ _ _ _ _ _ => er_ic_lt rfl,
  fun _ _ _ _ _ _ => er_go rfl rfl,
  fun _ _ _ _ _ _ => er_ret rfl rfl,
  fun _ _ _ _ _ _ => er_go rfl rfl,
  fun _ _ _ _ _ => er_go rfl rfl,
  fun _ _ _ _ _ _ _ => er_get1 rfl,
  fun _ _ _ _ _ _ => er_go rfl rfl,
  fun _ _ _ _ _ _ _ => er_go rfl rfl,
  fun _ _ _ _ _ _ => er_go rfl rfl,
  fun _ _ _ _ _ => er_go rfl rfl,
  fun _ _ _ _ _ _ _ => er_get1 rfl,
  fun _ _ _ _ _ _ _ _ _ => er_callS rfl rfl rfl,
  fun _ _ _ _ _ _ _ => er_callV rfl rfl rfl rfl,
  fun _ _ _ _ _ _ _ => er_go rfl rfl,
  fun _ _ _ _ _ _ => er_go rfl rfl,
  fun _ _ _ _ _ => er_go rfl rfl,
  fun _ _ _ _ _ _ _ => er_get1 rfl,
  fun _ _ _ _ _ _ => er_callV rfl rfl rfl rfl,
  fun _ _ _ _ _ _ => er_go rfl rfl,
  fun _ _ _ _ _ _ _ _ => er_go rfl rfl,
  fun _ _ _ _ _ _ => er_ret rfl rfl⟩
/-- TwoStepOutputs.read(II)I -/
theorem r48 : (∀ (P : Nat × Nat) (l1 : Option Value) (l2 : Option Value) (l3 : Option Value) (a0 : Nat) (s : List Value) (h : am_H), am_E P 48 0 [some (.ref a0), l1, l2, l3] s h = am_E P 48 1 [some (.ref a0), l1, l2, l3] (.ref a0 :: s) h) ∧
  (∀ (P : Nat × Nat) (l1 : Option Value) (l2 : Option Value) (l3 : Option Value) (s : List Value) (h : am_H), am_E P 48 0 [some .null, l1, l2, l3] s h = am_E P 48 1 [some .null, l1, l2, l3] (.null :: s) h) ∧
  (∀ (P : Nat × Nat) (l0 : Option Value) (l2 : Option Value) (l3 : Option Value) (x0 : Int32) (s : List Value) (h : am_H), am_E P 48 1 [l0, some (.int x0), l2, l3] s h = am_E P 48 2 [l0, some (.int x0), l2, l3] (.int x0 :: s) h) ∧
  (∀ (P : Nat × Nat) (l0 : Option Value) (l1 : Option Value) (l2 : Option Value) (l3 : Option Value) (a0 : Nat) (x0 : Int32) (h : am_H), am_E P 48 2 [l0, l1, l2, l3] [.int x0, .ref a0] h = if am_cls h a0 = some 8 then (am_E P 54 0 [some (.ref a0), some (.int x0)] [] h).bind (fun q => am_E P 48 5 [l0, l1, l2, l3] (q.1.toList ++ []) q.2) else none) ∧
  (∀ (P : Nat × Nat) (l0 : Option Value) (l1 : Option Value) (l2 : Option Value) (l3 : Option Value) (a0 : Nat) (s : List Value) (h : am_H), am_E P 48 5 [l0, l1, l2, l3] (.ref a0 :: s) h = am_E P 48 6 [l0, l1, l2, some (.ref a0)] s h) ∧
  (∀ (P : Nat × Nat) (l0 : Option Value) (l1 : Option Value) (l2 : Option Value) (l3 : Option Value) (s : List Value) (h : am_H), am_E P 48 5 [l0, l1, l2, l3] (.null :: s) h = am_E P 48 6 [l0, l1, l2, some .null] s h) ∧
  (∀ (P : Nat × Nat) (l0 : Option Value) (l1 : Option Value) (l2 : Option Value) (a0 : Nat) (s : List Value) (h : am_H), am_E P 48 6 [l0, l1, l2, some (.ref a0)] s h = am_E P 48 7 [l0, l1, l2, some (.ref a0)] (.ref a0 :: s) h) ∧
  (∀ (P : Nat × Nat) (l0 : Option Value) (l1 : Option Value) (l2 : Option Value) (s : List Value) (h : am_H), am_E P 48 6 [l0, l1, l2, some .null] s h = am_E P 48 7 [l0, l1, l2, some .null] (.null :: s) h) ∧
  (∀ (P : Nat × Nat) (l0 : Option Value) (l1 : Option Value) (l2 : Option Value) (l3 : Option Value) (a0 : Nat) (s : List Value) (h : am_H), am_E P 48 7 [l0, l1, l2, l3] (.ref a0 :: s) h = am_E P 48 12 [l0, l1, l2, l3] s h) ∧
  (∀ (P : Nat × Nat) (l0 : Option Value) (l1 : Option Value) (l2 : Option Value) (l3 : Option Value) (s : List Value) (h : am_H), am_E P 48 7 [l0, l1, l2, l3] (.null :: s) h = am_E P 48 10 [l0, l1, l2, l3] s h) ∧
  (∀ (P : Nat × Nat) (l0 : Option Value) (l1 : Option Value) (l2 : Option Value) (l3 : Option Value) (s : List Value) (h : am_H), am_E P 48 10 [l0, l1, l2, l3] s h = am_E P 48 11 [l0, l1, l2, l3] (.int (-1) :: s) h) ∧
  (∀ (P : Nat × Nat) (l0 : Option Value) (l1 : Option Value) (l2 : Option Value) (l3 : Option Value) (x0 : Int32) (h : am_H), am_E P 48 11 [l0, l1, l2, l3] [.int x0] h = some (some (.int x0), h)) ∧
  (∀ (P : Nat × Nat) (l0 : Option Value) (l1 : Option Value) (l3 : Option Value) (x0 : Int32) (s : List Value) (h : am_H), am_E P 48 12 [l0, l1, some (.int x0), l3] s h = am_E P 48 13 [l0, l1, some (.int x0), l3] (.int x0 :: s) h) ∧
  (∀ (P : Nat × Nat) (l0 : Option Value) (l1 : Option Value) (l2 : Option Value) (l3 : Option Value) (s : List Value) (h : am_H), am_E P 48 13 [l0, l1, l2, l3] s h = am_E P 48 14 [l0, l1, l2, l3] (.int 1 :: s) h) ∧
  (∀ (P : Nat × Nat) (l0 : Option Value) (l1 : Option Value) (l2 : Option Value) (l3 : Option Value) (x0 : Int32) (x1 : Int32) (s : List Value) (h : am_H), am_E P 48 14 [l0, l1, l2, l3] (.int x1 :: .int x0 :: s) h = if x0 < x1 then am_E P 48 23 [l0, l1, l2, l3] s h else am_E P 48 17 [l0, l1, l2, l3] s h) ∧
  (∀ (P : Nat × Nat) (l0 : Option Value) (l1 : Option Value) (l3 : Option Value) (x0 : Int32) (s : List Value) (h : am_H), am_E P 48 17 [l0, l1, some (.int x0), l3] s h = am_E P 48 18 [l0, l1, some (.int x0), l3] (.int x0 :: s) h) ∧
  (∀ (P : Nat × Nat) (l0 : Option Value) (l1 : Option Value) (l2 : Option Value) (l3 : Option Value) (s : List Value) (h : am_H), am_E P 48 18 [l0, l1, l2, l3] s h = am_E P 48 20 [l0, l1, l2, l3] (.int 100 :: s) h) ∧
  (∀ (P : Nat × Nat) (l0 : Option Value) (l1 : Option Value) (l2 : Option Value) (l3 : Option Value) (x0 : Int32) (x1 : Int32) (s : List Value) (h : am_H), am_E P 48 20 [l0, l1, l2, l3] (.int x1 :: .int x0 :: s) h = if x0 ≤ x1 then am_E P 48 26 [l0, l1, l2, l3] s h else am_E P 48 23 [l0, l1, l2, l3] s h) ∧
  (∀ (P : Nat × Nat) (l0 : Option Value) (l1 : Option Value) (l2 : Option Value) (l3 : Option Value) (s : List Value) (h : am_H), am_E P 48 23 [l0, l1, l2, l3] s h = am_E P 48 25 [l0, l1, l2, l3] (.int (-2) :: s) h) ∧
  (∀ (P : Nat × Nat) (l0 : Option Value) (l1 : Option Value) (l2 : Option Value) (l3 : Option Value) (x0 : Int32) (h : am_H), am_E P 48 25 [l0, l1, l2, l3] [.int x0] h = some (some (.int x0), h)) ∧
  (∀ (P : Nat × Nat) (l0 : Option Value) (l1 : Option Value) (l2 : Option Value) (a0 : Nat) (s : List Value) (h : am_H), am_E P 48 26 [l0, l1, l2, some (.ref a0)] s h = am_E P 48 27 [l0, l1, l2, some (.ref a0)] (.ref a0 :: s) h) ∧
  (∀ (P : Nat × Nat) (l0 : Option Value) (l1 : Option Value) (l2 : Option Value) (s : List Value) (h : am_H), am_E P 48 26 [l0, l1, l2, some .null] s h = am_E P 48 27 [l0, l1, l2, some .null] (.null :: s) h) ∧
  (∀ (P : Nat × Nat) (l0 : Option Value) (l1 : Option Value) (l3 : Option Value) (x0 : Int32) (s : List Value) (h : am_H), am_E P 48 27 [l0, l1, some (.int x0), l3] s h = am_E P 48 28 [l0, l1, some (.int x0), l3] (.int x0 :: s) h) ∧
  (∀ (P : Nat × Nat) (l0 : Option Value) (l1 : Option Value) (l2 : Option Value) (l3 : Option Value) (a0 : Nat) (x0 : Int32) (h : am_H), am_E P 48 28 [l0, l1, l2, l3] [.int x0, .ref a0] h = if am_cls h a0 = some 6 then (am_E P 22 0 [some (.ref a0), some (.int x0), none, none] [] h).bind (fun q => am_E P 48 31 [l0, l1, l2, l3] (q.1.toList ++ []) q.2) else none) ∧
  (∀ (P : Nat × Nat) (l0 : Option Value) (l1 : Option Value) (l2 : Option Value) (l3 : Option Value) (x0 : Int32) (h : am_H), am_E P 48 31 [l0, l1, l2, l3] [.int x0] h = some (some (.int x0), h)) :=
  ⟨fun _ _ _ _ _ _ _ => er_go rfl rfl,
  fun _ _ _ _ _ _ => er_go rfl rfl,
  fun _ _ _ _ _ _ _ => er_go rfl rfl,
  fun _ _ _ _ _ _ _ _ => er_callV rfl rfl rfl rfl,
  fun _ _ _ _ _ _ _ _ => er_go rfl rfl,
  fun _ _ _ _ _ _ _ => er_go rfl rfl,
  fun _ _ _ _ _ _ _ => er_go rfl rfl,
  fun _ _ _ _ _ _ => er_go rfl rfl,
  fun _ _ _ _ _ _ _ _ => er_go rfl rfl,
  fun _ _ _ _ _ _ _ => er_go rfl rfl,
  fun _ _ _ _ _ _ _ => er_go rfl rfl,
  fun _ _ _ _ _ _ _ => er_ret rfl rfl,
  fun _ _ _ _ _ _ _ => er_go rfl rfl,
  fun _ _ _ _ _ _ _ => er_go rfl rfl,
  fun _ _ _ _ _ _ _ _ _ => er_ic_lt rfl,
  fun _ _ _ _ _ _ _ => er_go rfl rfl,
  fun _ _ _ _ _ _ _ => er_go rfl rfl,
  fun _ _ _ _ _ _ _ _ _ => er_ic_le rfl,
  fun _ _ _ _ _ _ _ => er_go rfl rfl,
  fun _ _ _ _ _ _ _ => er_ret rfl rfl,
  fun _ _ _ _ _ _ _ => er_go rfl rfl,
  fun _ _ _ _ _ _ => er_go rfl rfl,
  fun _ _ _ _ _ _ _ => er_go rfl rfl,
  fun _ _ _ _ _ _ _ _ => er_callV rfl rfl rfl rfl,
  fun _ _ _ _ _ _ _ => er_ret rfl rfl⟩
/-- TwoStepOutputs.seen(II)I -/
theorem r49 : (∀ (P : Nat × Nat) (l1 : Option Value) (l2 : Option Value) (l3 : Option Value) (a0 : Nat) (s : List Value) (h : am_H), am_E P 49 0 [some (.ref a0), l1, l2, l3] s h = am_E P 49 1 [some (.ref a0), l1, l2, l3] (.ref a0 :: s) h) ∧
  (∀ (P : Nat × Nat) (l1 : Option Value) (l2 : Option Value) (l3 : Option Value) (s : List Value) (h : am_H), am_E P 49 0 [some .null, l1, l2, l3] s h = am_E P 49 1 [some .null, l1, l2, l3] (.null :: s) h) ∧
  (∀ (P : Nat × Nat) (l0 : Option Value) (l2 : Option Value) (l3 : Option Value) (x0 : Int32) (s : List Value) (h : am_H), am_E P 49 1 [l0, some (.int x0), l2, l3] s h = am_E P 49 2 [l0, some (.int x0), l2, l3] (.int x0 :: s) h) ∧
  (∀ (P : Nat × Nat) (l0 : Option Value) (l1 : Option Value) (l2 : Option Value) (l3 : Option Value) (a0 : Nat) (x0 : Int32) (h : am_H), am_E P 49 2 [l0, l1, l2, l3] [.int x0, .ref a0] h = if am_cls h a0 = some 8 then (am_E P 54 0 [some (.ref a0), some (.int x0)] [] h).bind (fun q => am_E P 49 5 [l0, l1, l2, l3] (q.1.toList ++ []) q.2) else none) ∧
  (∀ (P : Nat × Nat) (l0 : Option Value) (l1 : Option Value) (l2 : Option Value) (l3 : Option Value) (a0 : Nat) (s : List Value) (h : am_H), am_E P 49 5 [l0, l1, l2, l3] (.ref a0 :: s) h = am_E P 49 6 [l0, l1, l2, some (.ref a0)] s h) ∧
  (∀ (P : Nat × Nat) (l0 : Option Value) (l1 : Option Value) (l2 : Option Value) (l3 : Option Value) (s : List Value) (h : am_H), am_E P 49 5 [l0, l1, l2, l3] (.null :: s) h = am_E P 49 6 [l0, l1, l2, some .null] s h) ∧
  (∀ (P : Nat × Nat) (l0 : Option Value) (l1 : Option Value) (l2 : Option Value) (a0 : Nat) (s : List Value) (h : am_H), am_E P 49 6 [l0, l1, l2, some (.ref a0)] s h = am_E P 49 7 [l0, l1, l2, some (.ref a0)] (.ref a0 :: s) h) ∧
  (∀ (P : Nat × Nat) (l0 : Option Value) (l1 : Option Value) (l2 : Option Value) (s : List Value) (h : am_H), am_E P 49 6 [l0, l1, l2, some .null] s h = am_E P 49 7 [l0, l1, l2, some .null] (.null :: s) h) ∧
  (∀ (P : Nat × Nat) (l0 : Option Value) (l1 : Option Value) (l2 : Option Value) (l3 : Option Value) (a0 : Nat) (s : List Value) (h : am_H), am_E P 49 7 [l0, l1, l2, l3] (.ref a0 :: s) h = am_E P 49 12 [l0, l1, l2, l3] s h) ∧
  (∀ (P : Nat × Nat) (l0 : Option Value) (l1 : Option Value) (l2 : Option Value) (l3 : Option Value) (s : List Value) (h : am_H), am_E P 49 7 [l0, l1, l2, l3] (.null :: s) h = am_E P 49 10 [l0, l1, l2, l3] s h) ∧
  (∀ (P : Nat × Nat) (l0 : Option Value) (l1 : Option Value) (l2 : Option Value) (l3 : Option Value) (s : List Value) (h : am_H), am_E P 49 10 [l0, l1, l2, l3] s h = am_E P 49 11 [l0, l1, l2, l3] (.int (-1) :: s) h) ∧
  (∀ (P : Nat × Nat) (l0 : Option Value) (l1 : Option Value) (l2 : Option Value) (l3 : Option Value) (x0 : Int32) (h : am_H), am_E P 49 11 [l0, l1, l2, l3] [.int x0] h = some (some (.int x0), h)) ∧
  (∀ (P : Nat × Nat) (l0 : Option Value) (l1 : Option Value) (l3 : Option Value) (x0 : Int32) (s : List Value) (h : am_H), am_E P 49 12 [l0, l1, some (.int x0), l3] s h = am_E P 49 13 [l0, l1, some (.int x0), l3] (.int x0 :: s) h) ∧
  (∀ (P : Nat × Nat) (l0 : Option Value) (l1 : Option Value) (l2 : Option Value) (l3 : Option Value) (s : List Value) (h : am_H), am_E P 49 13 [l0, l1, l2, l3] s h = am_E P 49 15 [l0, l1, l2, l3] (.int (-6) :: s) h) ∧
  (∀ (P : Nat × Nat) (l0 : Option Value) (l1 : Option Value) (l2 : Option Value) (l3 : Option Value) (x0 : Int32) (x1 : Int32) (s : List Value) (h : am_H), am_E P 49 15 [l0, l1, l2, l3] (.int x1 :: .int x0 :: s) h = if x0 = x1 then am_E P 49 18 [l0, l1, l2, l3] s h else am_E P 49 23 [l0, l1, l2, l3] s h) ∧
  (∀ (P : Nat × Nat) (l0 : Option Value) (l1 : Option Value) (l2 : Option Value) (a0 : Nat) (s : List Value) (h : am_H), am_E P 49 18 [l0, l1, l2, some (.ref a0)] s h = am_E P 49 19 [l0, l1, l2, some (.ref a0)] (.ref a0 :: s) h) ∧
  (∀ (P : Nat × Nat) (l0 : Option Value) (l1 : Option Value) (l2 : Option Value) (s : List Value) (h : am_H), am_E P 49 18 [l0, l1, l2, some .null] s h = am_E P 49 19 [l0, l1, l2, some .null] (.null :: s) h) ∧
  (∀ (P : Nat × Nat) (l0 : Option Value) (l1 : Option Value) (l2 : Option Value) (l3 : Option Value) (a0 : Nat) (s : List Value) (h : am_H), am_E P 49 19 [l0, l1, l2, l3] (.ref a0 :: s) h = (am_g1 h a0 6 2).bind (fun v => am_E P 49 22 [l0, l1, l2, l3] (v :: s) h)) ∧
  (∀ (P : Nat × Nat) (l0 : Option Value) (l1 : Option Value) (l2 : Option Value) (l3 : Option Value) (x0 : Int32) (h : am_H), am_E P 49 22 [l0, l1, l2, l3] [.int x0] h = some (some (.int x0), h)) ∧
  (∀ (P : Nat × Nat) (l0 : Option Value) (l1 : Option Value) (l3 : Option Value) (x0 : Int32) (s : List Value) (h : am_H), am_E P 49 23 [l0, l1, some (.int x0), l3] s h = am_E P 49 24 [l0, l1, some (.int x0), l3] (.int x0 :: s) h) ∧
  (∀ (P : Nat × Nat) (l0 : Option Value) (l1 : Option Value) (l2 : Option Value) (l3 : Option Value) (x0 : Int32) (h : am_H), am_E P 49 24 [l0, l1, l2, l3] [.int x0] h = (am_E P 55 0 [some (.int x0)] [] h).bind (fun q => am_E P 49 27 [l0, l1, l2, l3] (q.1.toList ++ []) q.2)) ∧
  (∀ (P : Nat × Nat) (l0 : Option Value) (l1 : Option Value) (l2 : Option Value) (l3 : Option Value) (x0 : Int32) (s : List Value) (h : am_H), am_E P 49 27 [l0, l1, l2, l3] (.int x0 :: s) h = if x0 = 0 then am_E P 49 39 [l0, l1, l2, l3] s h else am_E P 49 30 [l0, l1, l2, l3] s h) ∧
  (∀ (P : Nat × Nat) (l0 : Option Value) (l1 : Option Value) (l2 : Option Value) (a0 : Nat) (s : List Value) (h : am_H), am_E P 49 30 [l0, l1, l2, some (.ref a0)] s h = am_E P 49 31 [l0, l1, l2, some (.ref a0)] (.ref a0 :: s) h) ∧
  (∀ (P : Nat × Nat) (l0 : Option Value) (l1 : Option Value) (l2 : Option Value) (s : List Value) (h : am_H), am_E P 49 30 [l0, l1, l2, some .null] s h = am_E P 49 31 [l0, l1, l2, some .null] (.null :: s) h) ∧
  (∀ (P : Nat × Nat) (l0 : Option Value) (l1 : Option Value) (l2 : Option Value) (l3 : Option Value) (a0 : Nat) (s : List Value) (h : am_H), am_E P 49 31 [l0, l1, l2, l3] (.ref a0 :: s) h = (am_g1 h a0 6 1).bind (fun v => am_E P 49 34 [l0, l1, l2, l3] (v :: s) h)) ∧
  (∀ (P : Nat × Nat) (l0 : Option Value) (l1 : Option Value) (l3 : Option Value) (x0 : Int32) (s : List Value) (h : am_H), am_E P 49 34 [l0, l1, some (.int x0), l3] s h = am_E P 49 35 [l0, l1, some (.int x0), l3] (.int x0 :: s) h) ∧
  (∀ (P : Nat × Nat) (l0 : Option Value) (l1 : Option Value) (l2 : Option Value) (l3 : Option Value) (x0 : Int32) (a0 : Nat) (s : List Value) (h : am_H), am_E P 49 35 [l0, l1, l2, l3] (.int x0 :: .ref a0 :: s) h = (am_iald h a0 x0).bind (fun v => am_E P 49 36 [l0, l1, l2, l3] (.int v :: s) h)) ∧
  (∀ (P : Nat × Nat) (l0 : Option Value) (l1 : Option Value) (l2 : Option Value) (l3 : Option Value) (s : List Value) (h : am_H), am_E P 49 36 [l0, l1, l2, l3] s h = am_E P 49 41 [l0, l1, l2, l3] s h) ∧
  (∀ (P : Nat × Nat) (l0 : Option Value) (l1 : Option Value) (l2 : Option Value) (l3 : Option Value) (s : List Value) (h : am_H), am_E P 49 39 [l0, l1, l2, l3] s h = am_E P 49 41 [l0, l1, l2, l3] (.int (-2) :: s) h) ∧
  (∀ (P : Nat × Nat) (l0 : Option Value) (l1 : Option Value) (l2 : Option Value) (l3 : Option Value) (x0 : Int32) (h : am_H), am_E P 49 41 [l0, l1, l2, l3] [.int x0] h = some (some (.int x0), h)) :=
  ⟨fun _ _ _ _ _ _ _ => er_go rfl rfl,
  fun _ _ _ _ _ _ => er_go rfl rfl,
  fun _ _ _ _ _ _ _ => er_go rfl rfl,
  fun _ _ _ _ _ _ _ _ => er_callV rfl rfl rfl rfl,
  fun _ _ _ _ _ _ _ _ => er_go rfl rfl,
  fun _ _ _ _ _ _ _ => er_go rfl rfl,
  fun _ _ _ _ _ _ _ => er_go rfl rfl,
  fun _ _ _ _ _ _ => er_go rfl rfl,
  fun _ _ _ _ _ _ _ _ => er_go rfl rfl,
  fun _ _ _ _ _ _ _ => er_go rfl rfl,
  fun _ _ _ _ _ _ _ => er_go rfl rfl,
  fun _ _ _ _ _ _ _ => er_ret rfl rfl,
  fun _ _ _ _ _ _ _ => er_go rfl rfl,
  fun _ _ _ _ _ _ _ => er_go rfl rfl,
  fun _ _ _ _ _ _ _ _ _ => er_ic_ne rfl,
  fun _ _ _ _ _ _ _ => er_go rfl rfl,
  fun _ _ _ _ _ _ => er_go rfl rfl,
  fun _ _ _ _ _ _ _ _ => er_get1 rfl,
  fun _ _ _ _ _ _ _ => er_ret rfl rfl,
  fun _ _ _ _ _ _ _ => er_go rfl rfl,
  fun _ _ _ _ _ _ _ => er_callS rfl rfl rfl,
  fun _ _ _ _ _ _ _ _ => er_if_eq rfl,
  fun _ _ _ _ _ _ _ => er_go rfl rfl,
  fun _ _ _ _ _ _ => er_go rfl rfl,
  fun _ _ _ _ _ _ _ _ => er_get1 rfl,
  fun _ _ _ _ _ _ _ => er_go rfl rfl,
  fun _ _ _ _ _ _ _ _ _ => er_iald rfl,
  fun _ _ _ _ _ _ _ => er_go rfl rfl,
  fun _ _ _ _ _ _ _ => er_go rfl rfl,
  fun _ _ _ _ _ _ _ => er_ret rfl rfl⟩
/-- TwoStepOutputs.record(II)I -/
theorem r50 : (∀ (P : Nat × Nat) (l0 : Option Value) (l2 : Option Value) (x0 : Int32) (s : List Value) (h : am_H), am_E P 50 0 [l0, some (.int x0), l2] s h = am_E P 50 1 [l0, some (.int x0), l2] (.int x0 :: s) h) ∧
  (∀ (P : Nat × Nat) (l0 : Option Value) (l1 : Option Value) (l2 : Option Value) (x0 : Int32) (s : List Value) (h : am_H), am_E P 50 1 [l0, l1, l2] (.int x0 :: s) h = if x0 < 0 then am_E P 50 15 [l0, l1, l2] s h else am_E P 50 4 [l0, l1, l2] s h) ∧
  (∀ (P : Nat × Nat) (l0 : Option Value) (l2 : Option Value) (x0 : Int32) (s : List Value) (h : am_H), am_E P 50 4 [l0, some (.int x0), l2] s h = am_E P 50 5 [l0, some (.int x0), l2] (.int x0 :: s) h) ∧
  (∀ (P : Nat × Nat) (l1 : Option Value) (l2 : Option Value) (a0 : Nat) (s : List Value) (h : am_H), am_E P 50 5 [some (.ref a0), l1, l2] s h = am_E P 50 6 [some (.ref a0), l1, l2] (.ref a0 :: s) h) ∧
  (∀ (P : Nat × Nat) (l1 : Option Value) (l2 : Option Value) (s : List Value) (h : am_H), am_E P 50 5 [some .null, l1, l2] s h = am_E P 50 6 [some .null, l1, l2] (.null :: s) h) ∧
  (∀ (P : Nat × Nat) (l0 : Option Value) (l1 : Option Value) (l2 : Option Value) (a0 : Nat) (s : List Value) (h : am_H), am_E P 50 6 [l0, l1, l2] (.ref a0 :: s) h = (am_g1 h a0 8 2).bind (fun v => am_E P 50 9 [l0, l1, l2] (v :: s) h)) ∧
  (∀ (P : Nat × Nat) (l0 : Option Value) (l1 : Option Value) (l2 : Option Value) (a0 : Nat) (v0 : Value) (h : am_H), am_E P 50 9 [l0, l1, l2] [.ref a0, v0] h = if am_cls h a0 = some 2 then (am_E P 24 0 [some (.ref a0)] [] h).bind (fun q => am_E P 50 12 [l0, l1, l2] (q.1.toList ++ [v0]) q.2) else none) ∧
  (∀ (P : Nat × Nat) (l0 : Option Value) (l1 : Option Value) (l2 : Option Value) (x0 : Int32) (x1 : Int32) (s : List Value) (h : am_H), am_E P 50 12 [l0, l1, l2] (.int x1 :: .int x0 :: s) h = if x0 < x1 then am_E P 50 17 [l0, l1, l2] s h else am_E P 50 15 [l0, l1, l2] s h) ∧
  (∀ (P : Nat × Nat) (l0 : Option Value) (l1 : Option Value) (l2 : Option Value) (s : List Value) (h : am_H), am_E P 50 15 [l0, l1, l2] s h = am_E P 50 16 [l0, l1, l2] (.int (-1) :: s) h) ∧
  (∀ (P : Nat × Nat) (l0 : Option Value) (l1 : Option Value) (l2 : Option Value) (x0 : Int32) (h : am_H), am_E P 50 16 [l0, l1, l2] [.int x0] h = some (some (.int x0), h)) ∧
  (∀ (P : Nat × Nat) (l1 : Option Value) (l2 : Option Value) (a0 : Nat) (s : List Value) (h : am_H), am_E P 50 17 [some (.ref a0), l1, l2] s h = am_E P 50 18 [some (.ref a0), l1, l2] (.ref a0 :: s) h) ∧
  (∀ (P : Nat × Nat) (l1 : Option Value) (l2 : Option Value) (s : List Value) (h : am_H), am_E P 50 17 [some .null, l1, l2] s h = am_E P 50 18 [some .null, l1, l2] (.null :: s) h) ∧
  (∀ (P : Nat × Nat) (l0 : Option Value) (l1 : Option Value) (l2 : Option Value) (a0 : Nat) (s : List Value) (h : am_H), am_E P 50 18 [l0, l1, l2] (.ref a0 :: s) h = (am_g1 h a0 8 2).bind (fun v => am_E P 50 21 [l0, l1, l2] (v :: s) h)) ∧
  (∀ (P : Nat × Nat) (l0 : Option Value) (l2 : Option Value) (x0 : Int32) (s : List Value) (h : am_H), am_E P 50 21 [l0, some (.int x0), l2] s h = am_E P 50 22 [l0, some (.int x0), l2] (.int x0 :: s) h) ∧
  (∀ (P : Nat × Nat) (l0 : Option Value) (l1 : Option Value) (x0 : Int32) (s : List Value) (h : am_H), am_E P 50 22 [l0, l1, some (.int x0)] s h = am_E P 50 23 [l0, l1, some (.int x0)] (.int x0 :: s) h) ∧
  (∀ (P : Nat × Nat) (l0 : Option Value) (l1 : Option Value) (l2 : Option Value) (a0 : Nat) (x0 : Int32) (x1 : Int32) (h : am_H), am_E P 50 23 [l0, l1, l2] [.int x1, .int x0, .ref a0] h = if am_cls h a0 = some 2 then (am_E P 25 0 [some (.ref a0), some (.int x0), some (.int x1)] [] h).bind (fun q => am_E P 50 26 [l0, l1, l2] (q.1.toList ++ []) q.2) else none) ∧
  (∀ (P : Nat × Nat) (l0 : Option Value) (l1 : Option Value) (l2 : Option Value) (x0 : Int32) (s : List Value) (h : am_H), am_E P 50 26 [l0, l1, l2] (.int x0 :: s) h = if x0 = 0 then am_E P 50 41 [l0, l1, l2] s h else am_E P 50 29 [l0, l1, l2] s h) ∧
  (∀ (P : Nat × Nat) (l1 : Option Value) (l2 : Option Value) (a0 : Nat) (s : List Value) (h : am_H), am_E P 50 29 [some (.ref a0), l1, l2] s h = am_E P 50 30 [some (.ref a0), l1, l2] (.ref a0 :: s) h) ∧
  (∀ (P : Nat × Nat) (l1 : Option Value) (l2 : Option Value) (s : List Value) (h : am_H), am_E P 50 29 [some .null, l1, l2] s h = am_E P 50 30 [some .null, l1, l2] (.null :: s) h) ∧
  (∀ (P : Nat × Nat) (l0 : Option Value) (l1 : Option Value) (l2 : Option Value) (a0 : Nat) (s : List Value) (h : am_H), am_E P 50 30 [l0, l1, l2] (.ref a0 :: s) h = (am_g1 h a0 8 2).bind (fun v => am_E P 50 33 [l0, l1, l2] (v :: s) h)) ∧
  (∀ (P : Nat × Nat) (l0 : Option Value) (l2 : Option Value) (x0 : Int32) (s : List Value) (h : am_H), am_E P 50 33 [l0, some (.int x0), l2] s h = am_E P 50 34 [l0, some (.int x0), l2] (.int x0 :: s) h) ∧
  (∀ (P : Nat × Nat) (l0 : Option Value) (l1 : Option Value) (x0 : Int32) (s : List Value) (h : am_H), am_E P 50 34 [l0, l1, some (.int x0)] s h = am_E P 50 35 [l0, l1, some (.int x0)] (.int x0 :: s) h) ∧
  (∀ (P : Nat × Nat) (l0 : Option Value) (l1 : Option Value) (l2 : Option Value) (a0 : Nat) (x0 : Int32) (x1 : Int32) (h : am_H), am_E P 50 35 [l0, l1, l2] [.int x1, .int x0, .ref a0] h = if am_cls h a0 = some 2 then (am_E P 26 0 [some (.ref a0), some (.int x0), some (.int x1)] [] h).bind (fun q => am_E P 50 38 [l0, l1, l2] (q.1.toList ++ []) q.2) else none) ∧
  (∀ (P : Nat × Nat) (l0 : Option Value) (l1 : Option Value) (l2 : Option Value) (s : List Value) (h : am_H), am_E P 50 38 [l0, l1, l2] s h = am_E P 50 43 [l0, l1, l2] s h) ∧
  (∀ (P : Nat × Nat) (l0 : Option Value) (l1 : Option Value) (l2 : Option Value) (s : List Value) (h : am_H), am_E P 50 41 [l0, l1, l2] s h = am_E P 50 43 [l0, l1, l2] (.int (-2) :: s) h) ∧
  (∀ (P : Nat × Nat) (l0 : Option Value) (l1 : Option Value) (l2 : Option Value) (x0 : Int32) (h : am_H), am_E P 50 43 [l0, l1, l2] [.int x0] h = some (some (.int x0), h)) :=
  ⟨fun _ _ _ _ _ _ => er_go rfl rfl,
  fun _ _ _ _ _ _ _ => er_if_lt rfl,
  fun _ _ _ _ _ _ => er_go rfl rfl,
  fun _ _ _ _ _ _ => er_go rfl rfl,
  fun _ _ _ _ _ => er_go rfl rfl,
  fun _ _ _ _ _ _ _ => er_get1 rfl,
  fun _ _ _ _ _ _ _ => er_callV rfl rfl rfl rfl,
  fun _ _ _ _ _ _ _ _ => er_ic_lt rfl,
  fun _ _ _ _ _ _ => er_go rfl rfl,
  fun _ _ _ _ _ _ => er_ret rfl rfl,
  fun _ _ _ _ _ _ => er_go rfl rfl,
  fun _ _ _ _ _ => er_go rfl rfl,
  fun _ _ _ _ _ _ _ => er_get1 rfl,
  fun _ _ _ _ _ _ => er_go rfl rfl,
  fun _ _ _ _ _ _ => er_go rfl rfl,
  fun _ _ _ _ _ _ _ _ => er_callV rfl rfl rfl rfl,
  fun _ _ _ _ _ _ _ => er_if_eq rfl,
  fun _ _ _ _ _ _ => er_go rfl rfl,
  fun _ _ _ _ _ => er_go rfl rfl,
  fun _ _ _ _ _ _ _ => er_get1 rfl,
  fun _ _ _ _ _ _ => er_go rfl rfl,
  fun _ _ _ _ _ _ => er_go rfl rfl,
  fun _ _ _ _ _ _ _ _ => er_callV rfl rfl rfl rfl,
  fun _ _ _ _ _ _ => er_go rfl rfl,
  fun _ _ _ _ _ _ => er_go rfl rfl,
  fun _ _ _ _ _ _ => er_ret rfl rfl⟩
/-- TwoStepOutputs.told(I)I -/
theorem r51 : (∀ (P : Nat × Nat) (l0 : Option Value) (x0 : Int32) (s : List Value) (h : am_H), am_E P 51 0 [l0, some (.int x0)] s h = am_E P 51 1 [l0, some (.int x0)] (.int x0 :: s) h) ∧
  (∀ (P : Nat × Nat) (l0 : Option Value) (l1 : Option Value) (x0 : Int32) (s : List Value) (h : am_H), am_E P 51 1 [l0, l1] (.int x0 :: s) h = if x0 = 0 then am_E P 51 52 [l0, l1] s h else if x0 = 1 then am_E P 51 60 [l0, l1] s h else if x0 = 2 then am_E P 51 68 [l0, l1] s h else if x0 = 3 then am_E P 51 73 [l0, l1] s h else if x0 = 4 then am_E P 51 78 [l0, l1] s h else if x0 = 5 then am_E P 51 91 [l0, l1] s h else if x0 = 6 then am_E P 51 104 [l0, l1] s h else if x0 = 7 then am_E P 51 109 [l0, l1] s h else if x0 = 8 then am_E P 51 117 [l0, l1] s h else am_E P 51 125 [l0, l1] s h) ∧
  (∀ (P : Nat × Nat) (l1 : Option Value) (a0 : Nat) (s : List Value) (h : am_H), am_E P 51 52 [some (.ref a0), l1] s h = am_E P 51 53 [some (.ref a0), l1] (.ref a0 :: s) h) ∧
  (∀ (P : Nat × Nat) (l1 : Option Value) (s : List Value) (h : am_H), am_E P 51 52 [some .null, l1] s h = am_E P 51 53 [some .null, l1] (.null :: s) h) ∧
  (∀ (P : Nat × Nat) (l0 : Option Value) (l1 : Option Value) (a0 : Nat) (s : List Value) (h : am_H), am_E P 51 53 [l0, l1] (.ref a0 :: s) h = (am_g1 h a0 8 0).bind (fun v => am_E P 51 56 [l0, l1] (v :: s) h)) ∧
  (∀ (P : Nat × Nat) (l0 : Option Value) (l1 : Option Value) (a0 : Nat) (h : am_H), am_E P 51 56 [l0, l1] [.ref a0] h = if am_cls h a0 = some 0 then (am_E P 118 0 [some (.ref a0)] [] h).bind (fun q => am_E P 51 59 [l0, l1] (q.1.toList ++ []) q.2) else none) ∧
  (∀ (P : Nat × Nat) (l0 : Option Value) (l1 : Option Value) (x0 : Int32) (h : am_H), am_E P 51 59 [l0, l1] [.int x0] h = some (some (.int x0), h)) ∧
  (∀ (P : Nat × Nat) (l1 : Option Value) (a0 : Nat) (s : List Value) (h : am_H), am_E P 51 60 [some (.ref a0), l1] s h = am_E P 51 61 [some (.ref a0), l1] (.ref a0 :: s) h) ∧
  (∀ (P : Nat × Nat) (l1 : Option Value) (s : List Value) (h : am_H), am_E P 51 60 [some .null, l1] s h = am_E P 51 61 [some .null, l1] (.null :: s) h) ∧
  (∀ (P : Nat × Nat) (l0 : Option Value) (l1 : Option Value) (a0 : Nat) (s : List Value) (h : am_H), am_E P 51 61 [l0, l1] (.ref a0 :: s) h = (am_g1 h a0 8 2).bind (fun v => am_E P 51 64 [l0, l1] (v :: s) h)) ∧
  (∀ (P : Nat × Nat) (l0 : Option Value) (l1 : Option Value) (a0 : Nat) (h : am_H), am_E P 51 64 [l0, l1] [.ref a0] h = if am_cls h a0 = some 2 then (am_E P 24 0 [some (.ref a0)] [] h).bind (fun q => am_E P 51 67 [l0, l1] (q.1.toList ++ []) q.2) else none) ∧
  (∀ (P : Nat × Nat) (l0 : Option Value) (l1 : Option Value) (x0 : Int32) (h : am_H), am_E P 51 67 [l0, l1] [.int x0] h = some (some (.int x0), h)) ∧
  (∀ (P : Nat × Nat) (l1 : Option Value) (a0 : Nat) (s : List Value) (h : am_H), am_E P 51 68 [some (.ref a0), l1] s h = am_E P 51 69 [some (.ref a0), l1] (.ref a0 :: s) h) ∧
  (∀ (P : Nat × Nat) (l1 : Option Value) (s : List Value) (h : am_H), am_E P 51 68 [some .null, l1] s h = am_E P 51 69 [some .null, l1] (.null :: s) h) ∧
  (∀ (P : Nat × Nat) (l0 : Option Value) (l1 : Option Value) (a0 : Nat) (s : List Value) (h : am_H), am_E P 51 69 [l0, l1] (.ref a0 :: s) h = (am_g1 h a0 8 4).bind (fun v => am_E P 51 72 [l0, l1] (v :: s) h)) ∧
  (∀ (P : Nat × Nat) (l0 : Option Value) (l1 : Option Value) (x0 : Int32) (h : am_H), am_E P 51 72 [l0, l1] [.int x0] h = some (some (.int x0), h)) ∧
  (∀ (P : Nat × Nat) (l1 : Option Value) (a0 : Nat) (s : List Value) (h : am_H), am_E P 51 73 [some (.ref a0), l1] s h = am_E P 51 74 [some (.ref a0), l1] (.ref a0 :: s) h) ∧
  (∀ (P : Nat × Nat) (l1 : Option Value) (s : List Value) (h : am_H), am_E P 51 73 [some .null, l1] s h = am_E P 51 74 [some .null, l1] (.null :: s) h) ∧
  (∀ (P : Nat × Nat) (l0 : Option Value) (l1 : Option Value) (a0 : Nat) (h : am_H), am_E P 51 74 [l0, l1] [.ref a0] h = if am_cls h a0 = some 8 then (am_E P 57 0 [some (.ref a0)] [] h).bind (fun q => am_E P 51 77 [l0, l1] (q.1.toList ++ []) q.2) else none) ∧
  (∀ (P : Nat × Nat) (l0 : Option Value) (l1 : Option Value) (x0 : Int32) (h : am_H), am_E P 51 77 [l0, l1] [.int x0] h = some (some (.int x0), h)) ∧
  (∀ (P : Nat × Nat) (l1 : Option Value) (a0 : Nat) (s : List Value) (h : am_H), am_E P 51 78 [some (.ref a0), l1] s h = am_E P 51 79 [some (.ref a0), l1] (.ref a0 :: s) h) ∧
  (∀ (P : Nat × Nat) (l1 : Option Value) (s : List Value) (h : am_H), am_E P 51 78 [some .null, l1] s h = am_E P 51 79 [some .null, l1] (.null :: s) h) ∧
  (∀ (P : Nat × Nat) (l0 : Option Value) (l1 : Option Value) (a0 : Nat) (s : List Value) (h : am_H), am_E P 51 79 [l0, l1] (.ref a0 :: s) h = (am_g1 h a0 8 5).bind (fun v => am_E P 51 82 [l0, l1] (v :: s) h)) ∧
  (∀ (P : Nat × Nat) (l0 : Option Value) (l1 : Option Value) (x0 : Int32) (s : List Value) (h : am_H), am_E P 51 82 [l0, l1] (.int x0 :: s) h = if x0 = 0 then am_E P 51 89 [l0, l1] s h else am_E P 51 85 [l0, l1] s h) ∧
  (∀ (P : Nat × Nat) (l0 : Option Value) (l1 : Option Value) (s : List Value) (h : am_H), am_E P 51 85 [l0, l1] s h = am_E P 51 86 [l0, l1] (.int 1 :: s) h) ∧
  (∀ (P : Nat × Nat) (l0 : Option Value) (l1 : Option Value) (s : List Value) (h : am_H), am_E P 51 86 [l0, l1] s h = am_E P 51 90 [l0, l1] s h) ∧
  (∀ (P : Nat × Nat) (l0 : Option Value) (l1 : Option Value) (s : List Value) (h : am_H), am_E P 51 89 [l0, l1] s h = am_E P 51 90 [l0, l1] (.int 0 :: s) h) ∧
  (∀ (P : Nat × Nat) (l0 : Option Value) (l1 : Option Value) (x0 : Int32) (h : am_H), am_E P 51 90 [l0, l1] [.int x0] h = some (some (.int x0), h)) ∧
  (∀ (P : Nat × Nat) (l1 : Option Value) (a0 : Nat) (s : List Value) (h : am_H), am_E P 51 91 [some (.ref a0), l1] s h = am_E P 51 92 [some (.ref a0), l1] (.ref a0 :: s) h) ∧
  (∀ (P : Nat × Nat) (l1 : Option Value) (s : List Value) (h : am_H), am_E P 51 91 [some .null, l1] s h = am_E P 51 92 [some .null, l1] (.null :: s) h) ∧
  (∀ (P : Nat × Nat) (l0 : Option Value) (l1 : Option Value) (a0 : Nat) (s : List Value) (h : am_H), am_E P 51 92 [l0, l1] (.ref a0 :: s) h = (am_g1 h a0 8 6).bind (fun v => am_E P 51 95 [l0, l1] (v :: s) h)) ∧
  (∀ (P : Nat × Nat) (l0 : Option Value) (l1 : Option Value) (x0 : Int32) (s : List Value) (h : am_H), am_E P 51 95 [l0, l1] (.int x0 :: s) h = if x0 = 0 then am_E P 51 102 [l0, l1] s h else am_E P 51 98 [l0, l1] s h) ∧
  (∀ (P : Nat × Nat) (l0 : Option Value) (l1 : Option Value) (s : List Value) (h : am_H), am_E P 51 98 [l0, l1] s h = am_E P 51 99 [l0, l1] (.int 1 :: s) h) ∧
  (∀ (P : Nat × Nat) (l0 : Option Value) (l1 : Option Value) (s : List Value) (h : am_H), am_E P 51 99 [l0, l1] s h = am_E P 51 103 [l0, l1] s h) ∧
  (∀ (P : Nat × Nat) (l0 : Option Value) (l1 : Option Value) (s : List Value) (h : am_H), am_E P 51 102 [l0, l1] s h = am_E P 51 103 [l0, l1] (.int 0 :: s) h) ∧
  (∀ (P : Nat × Nat) (l0 : Option Value) (l1 : Option Value) (x0 : Int32) (h : am_H), am_E P 51 103 [l0, l1] [.int x0] h = some (some (.int x0), h)) ∧
  (∀ (P : Nat × Nat) (l1 : Option Value) (a0 : Nat) (s : List Value) (h : am_H), am_E P 51 104 [some (.ref a0), l1] s h = am_E P 51 105 [some (.ref a0), l1] (.ref a0 :: s) h) ∧
  (∀ (P : Nat × Nat) (l1 : Option Value) (s : List Value) (h : am_H), am_E P 51 104 [some .null, l1] s h = am_E P 51 105 [some .null, l1] (.null :: s) h) ∧
  (∀ (P : Nat × Nat) (l0 : Option Value) (l1 : Option Value) (a0 : Nat) (s : List Value) (h : am_H), am_E P 51 105 [l0, l1] (.ref a0 :: s) h = (am_g1 h a0 8 8).bind (fun v => am_E P 51 108 [l0, l1] (v :: s) h)) ∧
  (∀ (P : Nat × Nat) (l0 : Option Value) (l1 : Option Value) (x0 : Int32) (h : am_H), am_E P 51 108 [l0, l1] [.int x0] h = some (some (.int x0), h)) ∧
  (∀ (P : Nat × Nat) (l1 : Option Value) (a0 : Nat) (s : List Value) (h : am_H), am_E P 51 109 [some (.ref a0), l1] s h = am_E P 51 110 [some (.ref a0), l1] (.ref a0 :: s) h) ∧
  (∀ (P : Nat × Nat) (l1 : Option Value) (s : List Value) (h : am_H), am_E P 51 109 [some .null, l1] s h = am_E P 51 110 [some .null, l1] (.null :: s) h) ∧
  (∀ (P : Nat × Nat) (l0 : Option Value) (l1 : Option Value) (a0 : Nat) (s : List Value) (h : am_H), am_E P 51 110 [l0, l1] (.ref a0 :: s) h = (am_g1 h a0 8 3).bind (fun v => am_E P 51 113 [l0, l1] (v :: s) h)) ∧
  (∀ (P : Nat × Nat) (l0 : Option Value) (l1 : Option Value) (a0 : Nat) (s : List Value) (h : am_H), am_E P 51 113 [l0, l1] (.ref a0 :: s) h = (am_g1 h a0 1 2).bind (fun v => am_E P 51 116 [l0, l1] (v :: s) h)) ∧
  (∀ (P : Nat × Nat) (l0 : Option Value) (l1 : Option Value) (x0 : Int32) (h : am_H), am_E P 51 116 [l0, l1] [.int x0] h = some (some (.int x0), h)) ∧
  (∀ (P : Nat × Nat) (l1 : Option Value) (a0 : Nat) (s : List Value) (h : am_H), am_E P 51 117 [some (.ref a0), l1] s h = am_E P 51 118 [some (.ref a0), l1] (.ref a0 :: s) h) ∧
  (∀ (P : Nat × Nat) (l1 : Option Value) (s : List Value) (h : am_H), am_E P 51 117 [some .null, l1] s h = am_E P 51 118 [some .null, l1] (.null :: s) h) ∧
  (∀ (P : Nat × Nat) (l0 : Option Value) (l1 : Option Value) (a0 : Nat) (s : List Value) (h : am_H), am_E P 51 118 [l0, l1] (.ref a0 :: s) h = (am_g1 h a0 8 1).bind (fun v => am_E P 51 121 [l0, l1] (v :: s) h)) ∧
  (∀ (P : Nat × Nat) (l0 : Option Value) (l1 : Option Value) (a0 : Nat) (h : am_H), am_E P 51 121 [l0, l1] [.ref a0] h = if am_cls h a0 = some 0 then (am_E P 118 0 [some (.ref a0)] [] h).bind (fun q => am_E P 51 124 [l0, l1] (q.1.toList ++ []) q.2) else none) ∧
  (∀ (P : Nat × Nat) (l0 : Option Value) (l1 : Option Value) (x0 : Int32) (h : am_H), am_E P 51 124 [l0, l1] [.int x0] h = some (some (.int x0), h)) ∧
  (∀ (P : Nat × Nat) (l0 : Option Value) (l1 : Option Value) (s : List Value) (h : am_H), am_E P 51 125 [l0, l1] s h = am_E P 51 127 [l0, l1] (.int (-2) :: s) h) ∧
  (∀ (P : Nat × Nat) (l0 : Option Value) (l1 : Option Value) (x0 : Int32) (h : am_H), am_E P 51 127 [l0, l1] [.int x0] h = some (some (.int x0), h)) :=
  ⟨fun _ _ _ _ _ => er_go rfl rfl,
  fun _ _ _ _ _ _ => er_sw rfl rfl rfl,
  fun _ _ _ _ _ => er_go rfl rfl,
  fun _ _ _ _ => er_go rfl rfl,
  fun _ _ _ _ _ _ => er_get1 rfl,
  fun _ _ _ _ _ => er_callV rfl rfl rfl rfl,
  fun _ _ _ _ _ => er_ret rfl rfl,
  fun _ _ _ _ _ => er_go rfl rfl,
  fun _ _ _ _ => er_go rfl rfl,
  fun _ _ _ _ _ _ => er_get1 rfl,
  fun _ _ _ _ _ => er_callV rfl rfl rfl rfl,
  fun _ _ _ _ _ => er_ret rfl rfl,
  fun _ _ _ _ _ => er_go rfl rfl,
  fun _ _ _ _ => er_go rfl rfl,
  fun _ _ _ _ _ _ => er_get1 rfl,
  fun _ _ _ _ _ => er_ret rfl rfl,
  fun _ _ _ _ _ => er_go rfl rfl,
  fun _ _ _ _ => er_go rfl rfl,
  fun _ _ _ _ _ => er_callV rfl rfl rfl rfl,
  fun _ _ _ _ _ => er_ret rfl rfl,
  fun _ _ _ _ _ => er_go rfl rfl,
  fun _ _ _ _ => er_go rfl rfl,
  fun _ _ _ _ _ _ => er_get1 rfl,
  fun _ _ _ _ _ _ => er_if_eq rfl,
  fun _ _ _ _ _ => er_go rfl rfl,
  fun _ _ _ _ _ => er_go rfl rfl,
  fun _ _ _ _ _ => er_go rfl rfl,
  fun _ _ _ _ _ => er_ret rfl rfl,
  fun _ _ _ _ _ => er_go rfl rfl,
  fun _ _ _ _ => er_go rfl rfl,
  fun _ _ _ _ _ _ => er_get1 rfl,
  fun _ _ _ _ _ _ => er_if_eq rfl,
  fun _ _ _ _ _ => er_go rfl rfl,
  fun _ _ _ _ _ => er_go rfl rfl,
  fun _ _ _ _ _ => er_go rfl rfl,
  fun _ _ _ _ _ => er_ret rfl rfl,
  fun _ _ _ _ _ => er_go rfl rfl,
  fun _ _ _ _ => er_go rfl rfl,
  fun _ _ _ _ _ _ => er_get1 rfl,
  fun _ _ _ _ _ => er_ret rfl rfl,
  fun _ _ _ _ _ => er_go rfl rfl,
  fun _ _ _ _ => er_go rfl rfl,
  fun _ _ _ _ _ _ => er_get1 rfl,
  fun _ _ _ _ _ _ => er_get1 rfl,
  fun _ _ _ _ _ => er_ret rfl rfl,
  fun _ _ _ _ _ => er_go rfl rfl,
  fun _ _ _ _ => er_go rfl rfl,
  fun _ _ _ _ _ _ => er_get1 rfl,
  fun _ _ _ _ _ => er_callV rfl rfl rfl rfl,
  fun _ _ _ _ _ => er_ret rfl rfl,
  fun _ _ _ _ _ => er_go rfl rfl,
  fun _ _ _ _ _ => er_ret rfl rfl⟩
/-- TwoStepOutputs.audit()I -/
theorem r52 : (∀ (P : Nat × Nat) (l0 : Option Value) (l1 : Option Value) (l2 : Option Value) (l3 : Option Value) (l4 : Option Value) (l5 : Option Value) (l6 : Option Value) (s : List Value) (h : am_H), am_E P 52 0 [l0, l1, l2, l3, l4, l5, l6] s h = am_E P 52 1 [l0, l1, l2, l3, l4, l5, l6] (.int 1 :: s) h) ∧
  (∀ (P : Nat × Nat) (l0 : Option Value) (l1 : Option Value) (l2 : Option Value) (l3 : Option Value) (l4 : Option Value) (l5 : Option Value) (l6 : Option Value) (x0 : Int32) (s : List Value) (h : am_H), am_E P 52 1 [l0, l1, l2, l3, l4, l5, l6] (.int x0 :: s) h = am_E P 52 2 [l0, some (.int x0), l2, l3, l4, l5, l6] s h) ∧
  (∀ (P : Nat × Nat) (l0 : Option Value) (l1 : Option Value) (l2 : Option Value) (l3 : Option Value) (l4 : Option Value) (l5 : Option Value) (l6 : Option Value) (s : List Value) (h : am_H), am_E P 52 2 [l0, l1, l2, l3, l4, l5, l6] s h = am_E P 52 3 [l0, l1, l2, l3, l4, l5, l6] (.int 1 :: s) h) ∧
  (∀ (P : Nat × Nat) (l0 : Option Value) (l1 : Option Value) (l2 : Option Value) (l3 : Option Value) (l4 : Option Value) (l5 : Option Value) (l6 : Option Value) (x0 : Int32) (s : List Value) (h : am_H), am_E P 52 3 [l0, l1, l2, l3, l4, l5, l6] (.int x0 :: s) h = am_E P 52 4 [l0, l1, some (.int x0), l3, l4, l5, l6] s h) ∧
  (∀ (P : Nat × Nat) (l0 : Option Value) (l1 : Option Value) (l2 : Option Value) (l3 : Option Value) (l4 : Option Value) (l5 : Option Value) (l6 : Option Value) (s : List Value) (h : am_H), am_E P 52 4 [l0, l1, l2, l3, l4, l5, l6] s h = am_E P 52 5 [l0, l1, l2, l3, l4, l5, l6] (.int 1 :: s) h) ∧
  (∀ (P : Nat × Nat) (l0 : Option Value) (l1 : Option Value) (l2 : Option Value) (l3 : Option Value) (l4 : Option Value) (l5 : Option Value) (l6 : Option Value) (x0 : Int32) (s : List Value) (h : am_H), am_E P 52 5 [l0, l1, l2, l3, l4, l5, l6] (.int x0 :: s) h = am_E P 52 6 [l0, l1, l2, some (.int x0), l4, l5, l6] s h) ∧
  (∀ (P : Nat × Nat) (l0 : Option Value) (l1 : Option Value) (l2 : Option Value) (l3 : Option Value) (l4 : Option Value) (l5 : Option Value) (l6 : Option Value) (s : List Value) (h : am_H), am_E P 52 6 [l0, l1, l2, l3, l4, l5, l6] s h = am_E P 52 7 [l0, l1, l2, l3, l4, l5, l6] (.int 1 :: s) h) ∧
  (∀ (P : Nat × Nat) (l0 : Option Value) (l1 : Option Value) (l2 : Option Value) (l3 : Option Value) (l4 : Option Value) (l5 : Option Value) (l6 : Option Value) (x0 : Int32) (s : List Value) (h : am_H), am_E P 52 7 [l0, l1, l2, l3, l4, l5, l6] (.int x0 :: s) h = am_E P 52 9 [l0, l1, l2, l3, some (.int x0), l5, l6] s h) ∧
  (∀ (P : Nat × Nat) (l0 : Option Value) (l1 : Option Value) (l2 : Option Value) (l3 : Option Value) (l4 : Option Value) (l5 : Option Value) (l6 : Option Value) (s : List Value) (h : am_H), am_E P 52 9 [l0, l1, l2, l3, l4, l5, l6] s h = am_E P 52 10 [l0, l1, l2, l3, l4, l5, l6] (.int 0 :: s) h) ∧
  (∀ (P : Nat × Nat) (l0 : Option Value) (l1 : Option Value) (l2 : Option Value) (l3 : Option Value) (l4 : Option Value) (l5 : Option Value) (l6 : Option Value) (x0 : Int32) (s : List Value) (h : am_H), am_E P 52 10 [l0, l1, l2, l3, l4, l5, l6] (.int x0 :: s) h = am_E P 52 12 [l0, l1, l2, l3, l4, some (.int x0), l6] s h) ∧
  (∀ (P : Nat × Nat) (l1 : Option Value) (l2 : Option Value) (l3 : Option Value) (l4 : Option Value) (l5 : Option Value) (l6 : Option Value) (a0 : Nat) (s : List Value) (h : am_H), am_E P 52 14 [some (.ref a0), l1, l2, l3, l4, l5, l6] s h = am_E P 52 15 [some (.ref a0), l1, l2, l3, l4, l5, l6] (.ref a0 :: s) h) ∧
  (∀ (P : Nat × Nat) (l1 : Option Value) (l2 : Option Value) (l3 : Option Value) (l4 : Option Value) (l5 : Option Value) (l6 : Option Value) (s : List Value) (h : am_H), am_E P 52 14 [some .null, l1, l2, l3, l4, l5, l6] s h = am_E P 52 15 [some .null, l1, l2, l3, l4, l5, l6] (.null :: s) h) ∧
  (∀ (P : Nat × Nat) (l0 : Option Value) (l1 : Option Value) (l2 : Option Value) (l3 : Option Value) (l4 : Option Value) (l5 : Option Value) (l6 : Option Value) (a0 : Nat) (s : List Value) (h : am_H), am_E P 52 15 [l0, l1, l2, l3, l4, l5, l6] (.ref a0 :: s) h = (am_g1 h a0 8 0).bind (fun v => am_E P 52 18 [l0, l1, l2, l3, l4, l5, l6] (v :: s) h)) ∧
  (∀ (P : Nat × Nat) (l0 : Option Value) (l1 : Option Value) (l2 : Option Value) (l3 : Option Value) (l4 : Option Value) (l5 : Option Value) (l6 : Option Value) (a0 : Nat) (v0 : Value) (h : am_H), am_E P 52 18 [l0, l1, l2, l3, l4, l5, l6] [.ref a0, v0] h = if am_cls h a0 = some 0 then (am_E P 118 0 [some (.ref a0)] [] h).bind (fun q => am_E P 52 21 [l0, l1, l2, l3, l4, l5, l6] (q.1.toList ++ [v0]) q.2) else none) ∧
  (∀ (P : Nat × Nat) (l0 : Option Value) (l1 : Option Value) (l2 : Option Value) (l3 : Option Value) (l4 : Option Value) (l5 : Option Value) (l6 : Option Value) (x0 : Int32) (x1 : Int32) (s : List Value) (h : am_H), am_E P 52 21 [l0, l1, l2, l3, l4, l5, l6] (.int x1 :: .int x0 :: s) h = if x1 ≤ x0 then am_E P 52 126 [l0, l1, l2, l3, l4, l5, l6] s h else am_E P 52 24 [l0, l1, l2, l3, l4, l5, l6] s h) ∧
  (∀ (P : Nat × Nat) (l1 : Option Value) (l2 : Option Value) (l3 : Option Value) (l4 : Option Value) (l5 : Option Value) (l6 : Option Value) (a0 : Nat) (s : List Value) (h : am_H), am_E P 52 24 [some (.ref a0), l1, l2, l3, l4, l5, l6] s h = am_E P 52 25 [some (.ref a0), l1, l2, l3, l4, l5, l6] (.ref a0 :: s) h) ∧
  (∀ (P : Nat × Nat) (l1 : Option Value) (l2 : Option Value) (l3 : Option Value) (l4 : Option Value) (l5 : Option Value) (l6 : Option Value) (s : List Value) (h : am_H), am_E P 52 24 [some .null, l1, l2, l3, l4, l5, l6] s h = am_E P 52 25 [some .null, l1, l2, l3, l4, l5, l6] (.null :: s) h) ∧
  (∀ (P : Nat × Nat) (l0 : Option Value) (l1 : Option Value) (l2 : Option Value) (l3 : Option Value) (l4 : Option Value) (l5 : Option Value) (l6 : Option Value) (a0 : Nat) (s : List Value) (h : am_H), am_E P 52 25 [l0, l1, l2, l3, l4, l5, l6] (.ref a0 :: s) h = (am_g1 h a0 8 0).bind (fun v => am_E P 52 28 [l0, l1, l2, l3, l4, l5, l6] (v :: s) h)) ∧
  (∀ (P : Nat × Nat) (l0 : Option Value) (l1 : Option Value) (l2 : Option Value) (l3 : Option Value) (l4 : Option Value) (l6 : Option Value) (x0 : Int32) (s : List Value) (h : am_H), am_E P 52 28 [l0, l1, l2, l3, l4, some (.int x0), l6] s h = am_E P 52 30 [l0, l1, l2, l3, l4, some (.int x0), l6] (.int x0 :: s) h) ∧
  (∀ (P : Nat × Nat) (l0 : Option Value) (l1 : Option Value) (l2 : Option Value) (l3 : Option Value) (l4 : Option Value) (l5 : Option Value) (l6 : Option Value) (a0 : Nat) (x0 : Int32) (h : am_H), am_E P 52 30 [l0, l1, l2, l3, l4, l5, l6] [.int x0, .ref a0] h = if am_cls h a0 = some 0 then (am_E P 120 0 [some (.ref a0), some (.int x0)] [] h).bind (fun q => am_E P 52 33 [l0, l1, l2, l3, l4, l5, l6] (q.1.toList ++ []) q.2) else none) ∧
  (∀ (P : Nat × Nat) (l0 : Option Value) (l1 : Option Value) (l2 : Option Value) (l3 : Option Value) (l4 : Option Value) (l5 : Option Value) (l6 : Option Value) (a0 : Nat) (s : List Value) (h : am_H), am_E P 52 33 [l0, l1, l2, l3, l4, l5, l6] (.ref a0 :: s) h = if am_cls h a0 = some 4 then am_E P 52 36 [l0, l1, l2, l3, l4, l5, l6] (.ref a0 :: s) h else none) ∧
  (∀ (P : Nat × Nat) (l0 : Option Value) (l1 : Option Value) (l2 : Option Value) (l3 : Option Value) (l4 : Option Value) (l5 : Option Value) (l6 : Option Value) (s : List Value) (h : am_H), am_E P 52 33 [l0, l1, l2, l3, l4, l5, l6] (.null :: s) h = am_E P 52 36 [l0, l1, l2, l3, l4, l5, l6] (.null :: s) h) ∧
  (∀ (P : Nat × Nat) (l0 : Option Value) (l1 : Option Value) (l2 : Option Value) (l3 : Option Value) (l4 : Option Value) (l5 : Option Value) (l6 : Option Value) (a0 : Nat) (s : List Value) (h : am_H), am_E P 52 36 [l0, l1, l2, l3, l4, l5, l6] (.ref a0 :: s) h = am_E P 52 38 [l0, l1, l2, l3, l4, l5, some (.ref a0)] s h) ∧
  (∀ (P : Nat × Nat) (l0 : Option Value) (l1 : Option Value) (l2 : Option Value) (l3 : Option Value) (l4 : Option Value) (l5 : Option Value) (l6 : Option Value) (s : List Value) (h : am_H), am_E P 52 36 [l0, l1, l2, l3, l4, l5, l6] (.null :: s) h = am_E P 52 38 [l0, l1, l2, l3, l4, l5, some .null] s h) ∧
  (∀ (P : Nat × Nat) (l0 : Option Value) (l2 : Option Value) (l3 : Option Value) (l4 : Option Value) (l5 : Option Value) (l6 : Option Value) (x0 : Int32) (s : List Value) (h : am_H), am_E P 52 38 [l0, some (.int x0), l2, l3, l4, l5, l6] s h = am_E P 52 39 [l0, some (.int x0), l2, l3, l4, l5, l6] (.int x0 :: s) h) ∧
  (∀ (P : Nat × Nat) (l0 : Option Value) (l1 : Option Value) (l2 : Option Value) (l3 : Option Value) (l4 : Option Value) (l5 : Option Value) (l6 : Option Value) (x0 : Int32) (s : List Value) (h : am_H), am_E P 52 39 [l0, l1, l2, l3, l4, l5, l6] (.int x0 :: s) h = if x0 = 0 then am_E P 52 58 [l0, l1, l2, l3, l4, l5, l6] s h else am_E P 52 42 [l0, l1, l2, l3, l4, l5, l6] s h) ∧
  (∀ (P : Nat × Nat) (l0 : Option Value) (l1 : Option Value) (l2 : Option Value) (l3 : Option Value) (l4 : Option Value) (l5 : Option Value) (a0 : Nat) (s : List Value) (h : am_H), am_E P 52 42 [l0, l1, l2, l3, l4, l5, some (.ref a0)] s h = am_E P 52 44 [l0, l1, l2, l3, l4, l5, some (.ref a0)] (.ref a0 :: s) h) ∧
  (∀ (P : Nat × Nat) (l0 : Option Value) (l1 : Option Value) (l2 : Option Value) (l3 : Option Value) (l4 : Option Value) (l5 : Option Value) (s : List Value) (h : am_H), am_E P 52 42 [l0, l1, l2, l3, l4, l5, some .null] s h = am_E P 52 44 [l0, l1, l2, l3, l4, l5, some .null] (.null :: s) h) ∧
  (∀ (P : Nat × Nat) (l1 : Option Value) (l2 : Option Value) (l3 : Option Value) (l4 : Option Value) (l5 : Option Value) (l6 : Option Value) (a0 : Nat) (s : List Value) (h : am_H), am_E P 52 44 [some (.ref a0), l1, l2, l3, l4, l5, l6] s h = am_E P 52 45 [some (.ref a0), l1, l2, l3, l4, l5, l6] (.ref a0 :: s) h) ∧
  (∀ (P : Nat × Nat) (l1 : Option Value) (l2 : Option Value) (l3 : Option Value) (l4 : Option Value) (l5 : Option Value) (l6 : Option Value) (s : List Value) (h : am_H), am_E P 52 44 [some .null, l1, l2, l3, l4, l5, l6] s h = am_E P 52 45 [some .null, l1, l2, l3, l4, l5, l6] (.null :: s) h) ∧
  (∀ (P : Nat × Nat) (l0 : Option Value) (l1 : Option Value) (l2 : Option Value) (l3 : Option Value) (l4 : Option Value) (l5 : Option Value) (l6 : Option Value) (a0 : Nat) (s : List Value) (h : am_H), am_E P 52 45 [l0, l1, l2, l3, l4, l5, l6] (.ref a0 :: s) h = (am_g1 h a0 8 4).bind (fun v => am_E P 52 48 [l0, l1, l2, l3, l4, l5, l6] (v :: s) h)) ∧
  (∀ (P : Nat × Nat) (l0 : Option Value) (l1 : Option Value) (l2 : Option Value) (l3 : Option Value) (l4 : Option Value) (l5 : Option Value) (l6 : Option Value) (a0 : Nat) (x0 : Int32) (h : am_H), am_E P 52 48 [l0, l1, l2, l3, l4, l5, l6] [.int x0, .ref a0] h = if am_cls h a0 = some 4 then (am_E P 15 0 [some (.ref a0), some (.int x0), none] [] h).bind (fun q => am_E P 52 51 [l0, l1, l2, l3, l4, l5, l6] (q.1.toList ++ []) q.2) else none) ∧
  (∀ (P : Nat × Nat) (l0 : Option Value) (l1 : Option Value) (l2 : Option Value) (l3 : Option Value) (l4 : Option Value) (l5 : Option Value) (l6 : Option Value) (x0 : Int32) (s : List Value) (h : am_H), am_E P 52 51 [l0, l1, l2, l3, l4, l5, l6] (.int x0 :: s) h = if x0 = 0 then am_E P 52 58 [l0, l1, l2, l3, l4, l5, l6] s h else am_E P 52 54 [l0, l1, l2, l3, l4, l5, l6] s h) ∧
  (∀ (P : Nat × Nat) (l0 : Option Value) (l1 : Option Value) (l2 : Option Value) (l3 : Option Value) (l4 : Option Value) (l5 : Option Value) (l6 : Option Value) (s : List Value) (h : am_H), am_E P 52 54 [l0, l1, l2, l3, l4, l5, l6] s h = am_E P 52 55 [l0, l1, l2, l3, l4, l5, l6] (.int 1 :: s) h) ∧
  (∀ (P : Nat × Nat) (l0 : Option Value) (l1 : Option Value) (l2 : Option Value) (l3 : Option Value) (l4 : Option Value) (l5 : Option Value) (l6 : Option Value) (s : List Value) (h : am_H), am_E P 52 55 [l0, l1, l2, l3, l4, l5, l6] s h = am_E P 52 59 [l0, l1, l2, l3, l4, l5, l6] s h) ∧
  (∀ (P : Nat × Nat) (l0 : Option Value) (l1 : Option Value) (l2 : Option Value) (l3 : Option Value) (l4 : Option Value) (l5 : Option Value) (l6 : Option Value) (s : List Value) (h : am_H), am_E P 52 58 [l0, l1, l2, l3, l4, l5, l6] s h = am_E P 52 59 [l0, l1, l2, l3, l4, l5, l6] (.int 0 :: s) h) ∧
  (∀ (P : Nat × Nat) (l0 : Option Value) (l1 : Option Value) (l2 : Option Value) (l3 : Option Value) (l4 : Option Value) (l5 : Option Value) (l6 : Option Value) (x0 : Int32) (s : List Value) (h : am_H), am_E P 52 59 [l0, l1, l2, l3, l4, l5, l6] (.int x0 :: s) h = am_E P 52 60 [l0, some (.int x0), l2, l3, l4, l5, l6] s h) ∧
  (∀ (P : Nat × Nat) (l0 : Option Value) (l1 : Option Value) (l3 : Option Value) (l4 : Option Value) (l5 : Option Value) (l6 : Option Value) (x0 : Int32) (s : List Value) (h : am_H), am_E P 52 60 [l0, l1, some (.int x0), l3, l4, l5, l6] s h = am_E P 52 61 [l0, l1, some (.int x0), l3, l4, l5, l6] (.int x0 :: s) h) ∧
  (∀ (P : Nat × Nat) (l0 : Option Value) (l1 : Option Value) (l2 : Option Value) (l3 : Option Value) (l4 : Option Value) (l5 : Option Value) (l6 : Option Value) (x0 : Int32) (s : List Value) (h : am_H), am_E P 52 61 [l0, l1, l2, l3, l4, l5, l6] (.int x0 :: s) h = if x0 = 0 then am_E P 52 76 [l0, l1, l2, l3, l4, l5, l6] s h else am_E P 52 64 [l0, l1, l2, l3, l4, l5, l6] s h) ∧
  (∀ (P : Nat × Nat) (l0 : Option Value) (l1 : Option Value) (l2 : Option Value) (l3 : Option Value) (l4 : Option Value) (l5 : Option Value) (a0 : Nat) (s : List Value) (h : am_H), am_E P 52 64 [l0, l1, l2, l3, l4, l5, some (.ref a0)] s h = am_E P 52 66 [l0, l1, l2, l3, l4, l5, some (.ref a0)] (.ref a0 :: s) h) ∧
  (∀ (P : Nat × Nat) (l0 : Option Value) (l1 : Option Value) (l2 : Option Value) (l3 : Option Value) (l4 : Option Value) (l5 : Option Value) (s : List Value) (h : am_H), am_E P 52 64 [l0, l1, l2, l3, l4, l5, some .null] s h = am_E P 52 66 [l0, l1, l2, l3, l4, l5, some .null] (.null :: s) h) ∧
  (∀ (P : Nat × Nat) (l0 : Option Value) (l1 : Option Value) (l2 : Option Value) (l3 : Option Value) (l4 : Option Value) (l5 : Option Value) (l6 : Option Value) (a0 : Nat) (h : am_H), am_E P 52 66 [l0, l1, l2, l3, l4, l5, l6] [.ref a0] h = if am_cls h a0 = some 4 then (am_E P 17 0 [some (.ref a0), none, none, none] [] h).bind (fun q => am_E P 52 69 [l0, l1, l2, l3, l4, l5, l6] (q.1.toList ++ []) q.2) else none) ∧
  (∀ (P : Nat × Nat) (l0 : Option Value) (l1 : Option Value) (l2 : Option Value) (l3 : Option Value) (l4 : Option Value) (l5 : Option Value) (l6 : Option Value) (x0 : Int32) (s : List Value) (h : am_H), am_E P 52 69 [l0, l1, l2, l3, l4, l5, l6] (.int x0 :: s) h = if x0 = 0 then am_E P 52 76 [l0, l1, l2, l3, l4, l5, l6] s h else am_E P 52 72 [l0, l1, l2, l3, l4, l5, l6] s h) ∧
  (∀ (P : Nat × Nat) (l0 : Option Value) (l1 : Option Value) (l2 : Option Value) (l3 : Option Value) (l4 : Option Value) (l5 : Option Value) (l6 : Option Value) (s : List Value) (h : am_H), am_E P 52 72 [l0, l1, l2, l3, l4, l5, l6] s h = am_E P 52 73 [l0, l1, l2, l3, l4, l5, l6] (.int 1 :: s) h) ∧
  (∀ (P : Nat × Nat) (l0 : Option Value) (l1 : Option Value) (l2 : Option Value) (l3 : Option Value) (l4 : Option Value) (l5 : Option Value) (l6 : Option Value) (s : List Value) (h : am_H), am_E P 52 73 [l0, l1, l2, l3, l4, l5, l6] s h = am_E P 52 77 [l0, l1, l2, l3, l4, l5, l6] s h) ∧
  (∀ (P : Nat × Nat) (l0 : Option Value) (l1 : Option Value) (l2 : Option Value) (l3 : Option Value) (l4 : Option Value) (l5 : Option Value) (l6 : Option Value) (s : List Value) (h : am_H), am_E P 52 76 [l0, l1, l2, l3, l4, l5, l6] s h = am_E P 52 77 [l0, l1, l2, l3, l4, l5, l6] (.int 0 :: s) h) ∧
  (∀ (P : Nat × Nat) (l0 : Option Value) (l1 : Option Value) (l2 : Option Value) (l3 : Option Value) (l4 : Option Value) (l5 : Option Value) (l6 : Option Value) (x0 : Int32) (s : List Value) (h : am_H), am_E P 52 77 [l0, l1, l2, l3, l4, l5, l6] (.int x0 :: s) h = am_E P 52 78 [l0, l1, some (.int x0), l3, l4, l5, l6] s h) ∧
  (∀ (P : Nat × Nat) (l0 : Option Value) (l1 : Option Value) (l2 : Option Value) (l4 : Option Value) (l5 : Option Value) (l6 : Option Value) (x0 : Int32) (s : List Value) (h : am_H), am_E P 52 78 [l0, l1, l2, some (.int x0), l4, l5, l6] s h = am_E P 52 79 [l0, l1, l2, some (.int x0), l4, l5, l6] (.int x0 :: s) h) ∧
  (∀ (P : Nat × Nat) (l0 : Option Value) (l1 : Option Value) (l2 : Option Value) (l3 : Option Value) (l4 : Option Value) (l5 : Option Value) (l6 : Option Value) (x0 : Int32) (s : List Value) (h : am_H), am_E P 52 79 [l0, l1, l2, l3, l4, l5, l6] (.int x0 :: s) h = if x0 = 0 then am_E P 52 94 [l0, l1, l2, l3, l4, l5, l6] s h else am_E P 52 82 [l0, l1, l2, l3, l4, l5, l6] s h) ∧
  (∀ (P : Nat × Nat) (l0 : Option Value) (l1 : Option Value) (l2 : Option Value) (l3 : Option Value) (l4 : Option Value) (l5 : Option Value) (a0 : Nat) (s : List Value) (h : am_H), am_E P 52 82 [l0, l1, l2, l3, l4, l5, some (.ref a0)] s h = am_E P 52 84 [l0, l1, l2, l3, l4, l5, some (.ref a0)] (.ref a0 :: s) h) ∧
  (∀ (P : Nat × Nat) (l0 : Option Value) (l1 : Option Value) (l2 : Option Value) (l3 : Option Value) (l4 : Option Value) (l5 : Option Value) (s : List Value) (h : am_H), am_E P 52 82 [l0, l1, l2, l3, l4, l5, some .null] s h = am_E P 52 84 [l0, l1, l2, l3, l4, l5, some .null] (.null :: s) h) ∧
  (∀ (P : Nat × Nat) (l0 : Option Value) (l1 : Option Value) (l2 : Option Value) (l3 : Option Value) (l4 : Option Value) (l5 : Option Value) (l6 : Option Value) (a0 : Nat) (h : am_H), am_E P 52 84 [l0, l1, l2, l3, l4, l5, l6] [.ref a0] h = if am_cls h a0 = some 4 then (am_E P 18 0 [some (.ref a0), none, none] [] h).bind (fun q => am_E P 52 87 [l0, l1, l2, l3, l4, l5, l6] (q.1.toList ++ []) q.2) else none) ∧
  (∀ (P : Nat × Nat) (l0 : Option Value) (l1 : Option Value) (l2 : Option Value) (l3 : Option Value) (l4 : Option Value) (l5 : Option Value) (l6 : Option Value) (x0 : Int32) (s : List Value) (h : am_H), am_E P 52 87 [l0, l1, l2, l3, l4, l5, l6] (.int x0 :: s) h = if x0 = 0 then am_E P 52 94 [l0, l1, l2, l3, l4, l5, l6] s h else am_E P 52 90 [l0, l1, l2, l3, l4, l5, l6] s h) ∧
  (∀ (P : Nat × Nat) (l0 : Option Value) (l1 : Option Value) (l2 : Option Value) (l3 : Option Value) (l4 : Option Value) (l5 : Option Value) (l6 : Option Value) (s : List Value) (h : am_H), am_E P 52 90 [l0, l1, l2, l3, l4, l5, l6] s h = am_E P 52 91 [l0, l1, l2, l3, l4, l5, l6] (.int 1 :: s) h) ∧
  (∀ (P : Nat × Nat) (l0 : Option Value) (l1 : Option Value) (l2 : Option Value) (l3 : Option Value) (l4 : Option Value) (l5 : Option Value) (l6 : Option Value) (s : List Value) (h : am_H), am_E P 52 91 [l0, l1, l2, l3, l4, l5, l6] s h = am_E P 52 95 [l0, l1, l2, l3, l4, l5, l6] s h) ∧
  (∀ (P : Nat × Nat) (l0 : Option Value) (l1 : Option Value) (l2 : Option Value) (l3 : Option Value) (l4 : Option Value) (l5 : Option Value) (l6 : Option Value) (s : List Value) (h : am_H), am_E P 52 94 [l0, l1, l2, l3, l4, l5, l6] s h = am_E P 52 95 [l0, l1, l2, l3, l4, l5, l6] (.int 0 :: s) h) ∧
  (∀ (P : Nat × Nat) (l0 : Option Value) (l1 : Option Value) (l2 : Option Value) (l3 : Option Value) (l4 : Option Value) (l5 : Option Value) (l6 : Option Value) (x0 : Int32) (s : List Value) (h : am_H), am_E P 52 95 [l0, l1, l2, l3, l4, l5, l6] (.int x0 :: s) h = am_E P 52 96 [l0, l1, l2, some (.int x0), l4, l5, l6] s h) ∧
  (∀ (P : Nat × Nat) (l0 : Option Value) (l1 : Option Value) (l2 : Option Value) (l3 : Option Value) (l5 : Option Value) (l6 : Option Value) (x0 : Int32) (s : List Value) (h : am_H), am_E P 52 96 [l0, l1, l2, l3, some (.int x0), l5, l6] s h = am_E P 52 98 [l0, l1, l2, l3, some (.int x0), l5, l6] (.int x0 :: s) h) ∧
  (∀ (P : Nat × Nat) (l0 : Option Value) (l1 : Option Value) (l2 : Option Value) (l3 : Option Value) (l4 : Option Value) (l5 : Option Value) (l6 : Option Value) (x0 : Int32) (s : List Value) (h : am_H), am_E P 52 98 [l0, l1, l2, l3, l4, l5, l6] (.int x0 :: s) h = if x0 = 0 then am_E P 52 117 [l0, l1, l2, l3, l4, l5, l6] s h else am_E P 52 101 [l0, l1, l2, l3, l4, l5, l6] s h) ∧
  (∀ (P : Nat × Nat) (l0 : Option Value) (l1 : Option Value) (l2 : Option Value) (l3 : Option Value) (l4 : Option Value) (l5 : Option Value) (a0 : Nat) (s : List Value) (h : am_H), am_E P 52 101 [l0, l1, l2, l3, l4, l5, some (.ref a0)] s h = am_E P 52 103 [l0, l1, l2, l3, l4, l5, some (.ref a0)] (.ref a0 :: s) h) ∧
  (∀ (P : Nat × Nat) (l0 : Option Value) (l1 : Option Value) (l2 : Option Value) (l3 : Option Value) (l4 : Option Value) (l5 : Option Value) (s : List Value) (h : am_H), am_E P 52 101 [l0, l1, l2, l3, l4, l5, some .null] s h = am_E P 52 103 [l0, l1, l2, l3, l4, l5, some .null] (.null :: s) h) ∧
  (∀ (P : Nat × Nat) (l1 : Option Value) (l2 : Option Value) (l3 : Option Value) (l4 : Option Value) (l5 : Option Value) (l6 : Option Value) (a0 : Nat) (s : List Value) (h : am_H), am_E P 52 103 [some (.ref a0), l1, l2, l3, l4, l5, l6] s h = am_E P 52 104 [some (.ref a0), l1, l2, l3, l4, l5, l6] (.ref a0 :: s) h) ∧
  (∀ (P : Nat × Nat) (l1 : Option Value) (l2 : Option Value) (l3 : Option Value) (l4 : Option Value) (l5 : Option Value) (l6 : Option Value) (s : List Value) (h : am_H), am_E P 52 103 [some .null, l1, l2, l3, l4, l5, l6] s h = am_E P 52 104 [some .null, l1, l2, l3, l4, l5, l6] (.null :: s) h) ∧
  (∀ (P : Nat × Nat) (l0 : Option Value) (l1 : Option Value) (l2 : Option Value) (l3 : Option Value) (l4 : Option Value) (l5 : Option Value) (l6 : Option Value) (a0 : Nat) (s : List Value) (h : am_H), am_E P 52 104 [l0, l1, l2, l3, l4, l5, l6] (.ref a0 :: s) h = (am_g1 h a0 8 2).bind (fun v => am_E P 52 107 [l0, l1, l2, l3, l4, l5, l6] (v :: s) h)) ∧
  (∀ (P : Nat × Nat) (l0 : Option Value) (l1 : Option Value) (l2 : Option Value) (l3 : Option Value) (l4 : Option Value) (l5 : Option Value) (l6 : Option Value) (a0 : Nat) (a1 : Nat) (h : am_H), am_E P 52 107 [l0, l1, l2, l3, l4, l5, l6] [.ref a1, .ref a0] h = if am_cls h a0 = some 4 then (am_E P 19 0 [some (.ref a0), some (.ref a1), none, none, none, none] [] h).bind (fun q => am_E P 52 110 [l0, l1, l2, l3, l4, l5, l6] (q.1.toList ++ []) q.2) else none) ∧
  (∀ (P : Nat × Nat) (l0 : Option Value) (l1 : Option Value) (l2 : Option Value) (l3 : Option Value) (l4 : Option Value) (l5 : Option Value) (l6 : Option Value) (x0 : Int32) (s : List Value) (h : am_H), am_E P 52 110 [l0, l1, l2, l3, l4, l5, l6] (.int x0 :: s) h = if x0 = 0 then am_E P 52 117 [l0, l1, l2, l3, l4, l5, l6] s h else am_E P 52 113 [l0, l1, l2, l3, l4, l5, l6] s h) ∧
  (∀ (P : Nat × Nat) (l0 : Option Value) (l1 : Option Value) (l2 : Option Value) (l3 : Option Value) (l4 : Option Value) (l5 : Option Value) (l6 : Option Value) (s : List Value) (h : am_H), am_E P 52 113 [l0, l1, l2, l3, l4, l5, l6] s h = am_E P 52 114 [l0, l1, l2, l3, l4, l5, l6] (.int 1 :: s) h) ∧
  (∀ (P : Nat × Nat) (l0 : Option Value) (l1 : Option Value) (l2 : Option Value) (l3 : Option Value) (l4 : Option Value) (l5 : Option Value) (l6 : Option Value) (s : List Value) (h : am_H), am_E P 52 114 [l0, l1, l2, l3, l4, l5, l6] s h = am_E P 52 118 [l0, l1, l2, l3, l4, l5, l6] s h) ∧
  (∀ (P : Nat × Nat) (l0 : Option Value) (l1 : Option Value) (l2 : Option Value) (l3 : Option Value) (l4 : Option Value) (l5 : Option Value) (l6 : Option Value) (s : List Value) (h : am_H), am_E P 52 117 [l0, l1, l2, l3, l4, l5, l6] s h = am_E P 52 118 [l0, l1, l2, l3, l4, l5, l6] (.int 0 :: s) h) ∧
  (∀ (P : Nat × Nat) (l0 : Option Value) (l1 : Option Value) (l2 : Option Value) (l3 : Option Value) (l4 : Option Value) (l5 : Option Value) (l6 : Option Value) (x0 : Int32) (s : List Value) (h : am_H), am_E P 52 118 [l0, l1, l2, l3, l4, l5, l6] (.int x0 :: s) h = am_E P 52 120 [l0, l1, l2, l3, some (.int x0), l5, l6] s h) ∧
  (∀ (P : Nat × Nat) (l0 : Option Value) (l1 : Option Value) (l2 : Option Value) (l3 : Option Value) (l4 : Option Value) (l6 : Option Value) (x0 : Int32) (s : List Value) (h : am_H), am_E P 52 120 [l0, l1, l2, l3, l4, some (.int x0), l6] s h = am_E P 52 123 [l0, l1, l2, l3, l4, some (.int (x0 + 1)), l6] s h) ∧
  (∀ (P : Nat × Nat) (l0 : Option Value) (l1 : Option Value) (l2 : Option Value) (l3 : Option Value) (l4 : Option Value) (l5 : Option Value) (l6 : Option Value) (s : List Value) (h : am_H), am_E P 52 123 [l0, l1, l2, l3, l4, l5, l6] s h = am_E P 52 12 [l0, l1, l2, l3, l4, l5, l6] s h) ∧
  (∀ (P : Nat × Nat) (l0 : Option Value) (l2 : Option Value) (l3 : Option Value) (l4 : Option Value) (l5 : Option Value) (l6 : Option Value) (x0 : Int32) (s : List Value) (h : am_H), am_E P 52 126 [l0, some (.int x0), l2, l3, l4, l5, l6] s h = am_E P 52 127 [l0, some (.int x0), l2, l3, l4, l5, l6] (.int x0 :: s) h) ∧
  (∀ (P : Nat × Nat) (l0 : Option Value) (l1 : Option Value) (l2 : Option Value) (l3 : Option Value) (l4 : Option Value) (l5 : Option Value) (l6 : Option Value) (x0 : Int32) (s : List Value) (h : am_H), am_E P 52 127 [l0, l1, l2, l3, l4, l5, l6] (.int x0 :: s) h = if x0 = 0 then am_E P 52 134 [l0, l1, l2, l3, l4, l5, l6] s h else am_E P 52 130 [l0, l1, l2, l3, l4, l5, l6] s h) ∧
  (∀ (P : Nat × Nat) (l0 : Option Value) (l1 : Option Value) (l2 : Option Value) (l3 : Option Value) (l4 : Option Value) (l5 : Option Value) (l6 : Option Value) (s : List Value) (h : am_H), am_E P 52 130 [l0, l1, l2, l3, l4, l5, l6] s h = am_E P 52 131 [l0, l1, l2, l3, l4, l5, l6] (.int 0 :: s) h) ∧
  (∀ (P : Nat × Nat) (l0 : Option Value) (l1 : Option Value) (l2 : Option Value) (l3 : Option Value) (l4 : Option Value) (l5 : Option Value) (l6 : Option Value) (s : List Value) (h : am_H), am_E P 52 131 [l0, l1, l2, l3, l4, l5, l6] s h = am_E P 52 135 [l0, l1, l2, l3, l4, l5, l6] s h) ∧
  (∀ (P : Nat × Nat) (l0 : Option Value) (l1 : Option Value) (l2 : Option Value) (l3 : Option Value) (l4 : Option Value) (l5 : Option Value) (l6 : Option Value) (s : List Value) (h : am_H), am_E P 52 134 [l0, l1, l2, l3, l4, l5, l6] s h = am_E P 52 135 [l0, l1, l2, l3, l4, l5, l6] (.int 1 :: s) h) ∧
  (∀ (P : Nat × Nat) (l0 : Option Value) (l1 : Option Value) (l3 : Option Value) (l4 : Option Value) (l5 : Option Value) (l6 : Option Value) (x0 : Int32) (s : List Value) (h : am_H), am_E P 52 135 [l0, l1, some (.int x0), l3, l4, l5, l6] s h = am_E P 52 136 [l0, l1, some (.int x0), l3, l4, l5, l6] (.int x0 :: s) h) ∧
  (∀ (P : Nat × Nat) (l0 : Option Value) (l1 : Option Value) (l2 : Option Value) (l3 : Option Value) (l4 : Option Value) (l5 : Option Value) (l6 : Option Value) (x0 : Int32) (s : List Value) (h : am_H), am_E P 52 136 [l0, l1, l2, l3, l4, l5, l6] (.int x0 :: s) h = if x0 = 0 then am_E P 52 143 [l0, l1, l2, l3, l4, l5, l6] s h else am_E P 52 139 [l0, l1, l2, l3, l4, l5, l6] s h) ∧
  (∀ (P : Nat × Nat) (l0 : Option Value) (l1 : Option Value) (l2 : Option Value) (l3 : Option Value) (l4 : Option Value) (l5 : Option Value) (l6 : Option Value) (s : List Value) (h : am_H), am_E P 52 139 [l0, l1, l2, l3, l4, l5, l6] s h = am_E P 52 140 [l0, l1, l2, l3, l4, l5, l6] (.int 0 :: s) h) ∧
  (∀ (P : Nat × Nat) (l0 : Option Value) (l1 : Option Value) (l2 : Option Value) (l3 : Option Value) (l4 : Option Value) (l5 : Option Value) (l6 : Option Value) (s : List Value) (h : am_H), am_E P 52 140 [l0, l1, l2, l3, l4, l5, l6] s h = am_E P 52 144 [l0, l1, l2, l3, l4, l5, l6] s h) ∧
  (∀ (P : Nat × Nat) (l0 : Option Value) (l1 : Option Value) (l2 : Option Value) (l3 : Option Value) (l4 : Option Value) (l5 : Option Value) (l6 : Option Value) (s : List Value) (h : am_H), am_E P 52 143 [l0, l1, l2, l3, l4, l5, l6] s h = am_E P 52 144 [l0, l1, l2, l3, l4, l5, l6] (.int 1 :: s) h) ∧
  (∀ (P : Nat × Nat) (l0 : Option Value) (l1 : Option Value) (l2 : Option Value) (l3 : Option Value) (l4 : Option Value) (l5 : Option Value) (l6 : Option Value) (x0 : Int32) (x1 : Int32) (s : List Value) (h : am_H), am_E P 52 144 [l0, l1, l2, l3, l4, l5, l6] (.int x1 :: .int x0 :: s) h = am_E P 52 145 [l0, l1, l2, l3, l4, l5, l6] (.int (x0 + x1) :: s) h) ∧
  (∀ (P : Nat × Nat) (l0 : Option Value) (l1 : Option Value) (l2 : Option Value) (l4 : Option Value) (l5 : Option Value) (l6 : Option Value) (x0 : Int32) (s : List Value) (h : am_H), am_E P 52 145 [l0, l1, l2, some (.int x0), l4, l5, l6] s h = am_E P 52 146 [l0, l1, l2, some (.int x0), l4, l5, l6] (.int x0 :: s) h) ∧
  (∀ (P : Nat × Nat) (l0 : Option Value) (l1 : Option Value) (l2 : Option Value) (l3 : Option Value) (l4 : Option Value) (l5 : Option Value) (l6 : Option Value) (x0 : Int32) (s : List Value) (h : am_H), am_E P 52 146 [l0, l1, l2, l3, l4, l5, l6] (.int x0 :: s) h = if x0 = 0 then am_E P 52 153 [l0, l1, l2, l3, l4, l5, l6] s h else am_E P 52 149 [l0, l1, l2, l3, l4, l5, l6] s h) ∧
  (∀ (P : Nat × Nat) (l0 : Option Value) (l1 : Option Value) (l2 : Option Value) (l3 : Option Value) (l4 : Option Value) (l5 : Option Value) (l6 : Option Value) (s : List Value) (h : am_H), am_E P 52 149 [l0, l1, l2, l3, l4, l5, l6] s h = am_E P 52 150 [l0, l1, l2, l3, l4, l5, l6] (.int 0 :: s) h) ∧
  (∀ (P : Nat × Nat) (l0 : Option Value) (l1 : Option Value) (l2 : Option Value) (l3 : Option Value) (l4 : Option Value) (l5 : Option Value) (l6 : Option Value) (s : List Value) (h : am_H), am_E P 52 150 [l0, l1, l2, l3, l4, l5, l6] s h = am_E P 52 154 [l0, l1, l2, l3, l4, l5, l6] s h) ∧
  (∀ (P : Nat × Nat) (l0 : Option Value) (l1 : Option Value) (l2 : Option Value) (l3 : Option Value) (l4 : Option Value) (l5 : Option Value) (l6 : Option Value) (s : List Value) (h : am_H), am_E P 52 153 [l0, l1, l2, l3, l4, l5, l6] s h = am_E P 52 154 [l0, l1, l2, l3, l4, l5, l6] (.int 1 :: s) h) ∧
  (∀ (P : Nat × Nat) (l0 : Option Value) (l1 : Option Value) (l2 : Option Value) (l3 : Option Value) (l4 : Option Value) (l5 : Option Value) (l6 : Option Value) (x0 : Int32) (x1 : Int32) (s : List Value) (h : am_H), am_E P 52 154 [l0, l1, l2, l3, l4, l5, l6] (.int x1 :: .int x0 :: s) h = am_E P 52 155 [l0, l1, l2, l3, l4, l5, l6] (.int (x0 + x1) :: s) h) ∧
  (∀ (P : Nat × Nat) (l0 : Option Value) (l1 : Option Value) (l2 : Option Value) (l3 : Option Value) (l5 : Option Value) (l6 : Option Value) (x0 : Int32) (s : List Value) (h : am_H), am_E P 52 155 [l0, l1, l2, l3, some (.int x0), l5, l6] s h = am_E P 52 157 [l0, l1, l2, l3, some (.int x0), l5, l6] (.int x0 :: s) h) ∧
  (∀ (P : Nat × Nat) (l0 : Option Value) (l1 : Option Value) (l2 : Option Value) (l3 : Option Value) (l4 : Option Value) (l5 : Option Value) (l6 : Option Value) (x0 : Int32) (s : List Value) (h : am_H), am_E P 52 157 [l0, l1, l2, l3, l4, l5, l6] (.int x0 :: s) h = if x0 = 0 then am_E P 52 164 [l0, l1, l2, l3, l4, l5, l6] s h else am_E P 52 160 [l0, l1, l2, l3, l4, l5, l6] s h) ∧
  (∀ (P : Nat × Nat) (l0 : Option Value) (l1 : Option Value) (l2 : Option Value) (l3 : Option Value) (l4 : Option Value) (l5 : Option Value) (l6 : Option Value) (s : List Value) (h : am_H), am_E P 52 160 [l0, l1, l2, l3, l4, l5, l6] s h = am_E P 52 161 [l0, l1, l2, l3, l4, l5, l6] (.int 0 :: s) h) ∧
  (∀ (P : Nat × Nat) (l0 : Option Value) (l1 : Option Value) (l2 : Option Value) (l3 : Option Value) (l4 : Option Value) (l5 : Option Value) (l6 : Option Value) (s : List Value) (h : am_H), am_E P 52 161 [l0, l1, l2, l3, l4, l5, l6] s h = am_E P 52 165 [l0, l1, l2, l3, l4, l5, l6] s h) ∧
  (∀ (P : Nat × Nat) (l0 : Option Value) (l1 : Option Value) (l2 : Option Value) (l3 : Option Value) (l4 : Option Value) (l5 : Option Value) (l6 : Option Value) (s : List Value) (h : am_H), am_E P 52 164 [l0, l1, l2, l3, l4, l5, l6] s h = am_E P 52 165 [l0, l1, l2, l3, l4, l5, l6] (.int 1 :: s) h) ∧
  (∀ (P : Nat × Nat) (l0 : Option Value) (l1 : Option Value) (l2 : Option Value) (l3 : Option Value) (l4 : Option Value) (l5 : Option Value) (l6 : Option Value) (x0 : Int32) (x1 : Int32) (s : List Value) (h : am_H), am_E P 52 165 [l0, l1, l2, l3, l4, l5, l6] (.int x1 :: .int x0 :: s) h = am_E P 52 166 [l0, l1, l2, l3, l4, l5, l6] (.int (x0 + x1) :: s) h) ∧
  (∀ (P : Nat × Nat) (l0 : Option Value) (l1 : Option Value) (l2 : Option Value) (l3 : Option Value) (l4 : Option Value) (l5 : Option Value) (l6 : Option Value) (x0 : Int32) (h : am_H), am_E P 52 166 [l0, l1, l2, l3, l4, l5, l6] [.int x0] h = some (some (.int x0), h)) :=
  ⟨fun _ _ _ _ _ _ _ _ _ _ => er_go rfl rfl,
  fun _ _ _ _ _ _ _ _ _ _ _ => er_go rfl rfl,
  fun _ _ _ _ _ _ _ _ _ _ => er_go rfl rfl,
  fun _ _ _ _ _ _ _ _ _ _ _ => er_go rfl rfl,
  fun _ _ _ _ _ _ _ _ _ _ => er_go rfl rfl,
  fun _ _ _ _ _ _ _ _ _ _ _ => er_go rfl rfl,
  fun _ _ _ _ _ _ _ _ _ _ => er_go rfl rfl,
  fun _ _ _ _ _ _ _ _ _ _ _ => er_go rfl rfl,
  fun _ _ _ _ _ _ _ _ _ _ => er_go rfl rfl,
  fun _ _ _ _ _ _ _ _ _ _ _ => er_go rfl rfl,
  fun _ _ _ _ _ _ _ _ _ _ => er_go rfl rfl,
  fun _ _ _ _ _ _ _ _ _ => er_go rfl rfl,
  fun _ _ _ _ _ _ _ _ _ _ _ => er_get1 rfl,
  fun _ _ _ _ _ _ _ _ _ _ _ => er_callV rfl rfl rfl rfl,
  fun _ _ _ _ _ _ _ _ _ _ _ _ => er_ic_ge rfl,
  fun _ _ _ _ _ _ _ _ _ _ => er_go rfl rfl,
  fun _ _ _ _ _ _ _ _ _ => er_go rfl rfl,
  fun _ _ _ _ _ _ _ _ _ _ _ => er_get1 rfl,
  fun _ _ _ _ _ _ _ _ _ _ => er_go rfl rfl,
  fun _ _ _ _ _ _ _ _ _ _ _ => er_callV rfl rfl rfl rfl,
  fun _ _ _ _ _ _ _ _ _ _ _ => er_cast rfl,
  fun _ _ _ _ _ _ _ _ _ _ => er_go rfl rfl,
  fun _ _ _ _ _ _ _ _ _ _ _ => er_go rfl rfl,
  fun _ _ _ _ _ _ _ _ _ _ => er_go rfl rfl,
  fun _ _ _ _ _ _ _ _ _ _ => er_go rfl rfl,
  fun _ _ _ _ _ _ _ _ _ _ _ => er_if_eq rfl,
  fun _ _ _ _ _ _ _ _ _ _ => er_go rfl rfl,
  fun _ _ _ _ _ _ _ _ _ => er_go rfl rfl,
  fun _ _ _ _ _ _ _ _ _ _ => er_go rfl rfl,
  fun _ _ _ _ _ _ _ _ _ => er_go rfl rfl,
  fun _ _ _ _ _ _ _ _ _ _ _ => er_get1 rfl,
  fun _ _ _ _ _ _ _ _ _ _ _ => er_callV rfl rfl rfl rfl,
  fun _ _ _ _ _ _ _ _ _ _ _ => er_if_eq rfl,
  fun _ _ _ _ _ _ _ _ _ _ => er_go rfl rfl,
  fun _ _ _ _ _ _ _ _ _ _ => er_go rfl rfl,
  fun _ _ _ _ _ _ _ _ _ _ => er_go rfl rfl,
  fun _ _ _ _ _ _ _ _ _ _ _ => er_go rfl rfl,
  fun _ _ _ _ _ _ _ _ _ _ => er_go rfl rfl,
  fun _ _ _ _ _ _ _ _ _ _ _ => er_if_eq rfl,
  fun _ _ _ _ _ _ _ _ _ _ => er_go rfl rfl,
  fun _ _ _ _ _ _ _ _ _ => er_go rfl rfl,
  fun _ _ _ _ _ _ _ _ _ _ => er_callV rfl rfl rfl rfl,
  fun _ _ _ _ _ _ _ _ _ _ _ => er_if_eq rfl,
  fun _ _ _ _ _ _ _ _ _ _ => er_go rfl rfl,
  fun _ _ _ _ _ _ _ _ _ _ => er_go rfl rfl,
  fun _ _ _ _ _ _ _ _ _ _ => er_go rfl rfl,
  fun _ _ _ _ _ _ _ _ _ _ _ => er_go rfl rfl,
  fun _ _ _ _ _ _ _ _ _ _ => er_go rfl rfl,
  fun _ _ _ _ _ _ _ _ _ _ _ => er_if_eq rfl,
  fun _ _ _ _ _ _ _ _ _ _ => er_go rfl rfl,
  fun _ _ _ _ _ _ _ _ _ => er_go rfl rfl,
  fun _ _ _ _ _ _ _ _ _ _ => er_callV rfl rfl rfl rfl,
  fun _ _ _ _ _ _ _ _ _ _ _ => er_if_eq rfl,
  fun _ _ _ _ _ _ _ _ _ _ => er_go rfl rfl,
  fun _ _ _ _ _ _ _ _ _ _ => er_go rfl rfl,
  fun _ _ _ _ _ _ _ _ _ _ => er_go rfl rfl,
  fun _ _ _ _ _ _ _ _ _ _ _ => er_go rfl rfl,
  fun _ _ _ _ _ _ _ _ _ _ => er_go rfl rfl,
  fun _ _ _ _ _ _ _ _ _ _ _ => er_if_eq rfl,
  fun _ _ _ _ _ _ _ _ _ _ => er_go rfl rfl,
  fun _ _ _ _ _ _ _ _ _ => er_go rfl rfl,
  fun _ _ _ _ _ _ _ _ _ _ => er_go rfl rfl,
  fun _ _ _ _ _ _ _ _ _ => er_go rfl rfl,
  fun _ _ _ _ _ _ _ _ _ _ _ => er_get1 rfl,
  fun _ _ _ _ _ _ _ _ _ _ _ => er_callV rfl rfl rfl rfl,
  fun _ _ _ _ _ _ _ _ _ _ _ => er_if_eq rfl,
  fun _ _ _ _ _ _ _ _ _ _ => er_go rfl rfl,
  fun _ _ _ _ _ _ _ _ _ _ => er_go rfl rfl,
  fun _ _ _ _ _ _ _ _ _ _ => er_go rfl rfl,
  fun _ _ _ _ _ _ _ _ _ _ _ => er_go rfl rfl,
  fun _ _ _ _ _ _ _ _ _ _ => er_go rfl rfl,
  fun _ _ _ _ _ _ _ _ _ _ => er_go rfl rfl,
  fun _ _ _ _ _ _ _ _ _ _ => er_go rfl rfl,
  fun _ _ _ _ _ _ _ _ _ _ _ => er_if_eq rfl,
  fun _ _ _ _ _ _ _ _ _ _ => er_go rfl rfl,
  fun _ _ _ _ _ _ _ _ _ _ => er_go rfl rfl,
  fun _ _ _ _ _ _ _ _ _ _ => er_go rfl rfl,
  fun _ _ _ _ _ _ _ _ _ _ => er_go rfl rfl,
  fun _ _ _ _ _ _ _ _ _ _ _ => er_if_eq rfl,
  fun _ _ _ _ _ _ _ _ _ _ => er_go rfl rfl,
  fun _ _ _ _ _ _ _ _ _ _ => er_go rfl rfl,
  fun _ _ _ _ _ _ _ _ _ _ => er_go rfl rfl,
  fun _ _ _ _ _ _ _ _ _ _ _ _ => er_go rfl rfl,
  fun _ _ _ _ _ _ _ _ _ _ => er_go rfl rfl,
  fun _ _ _ _ _ _ _ _ _ _ _ => er_if_eq rfl,
  fun _ _ _ _ _ _ _ _ _ _ => er_go rfl rfl,
  fun _ _ _ _ _ _ _ _ _ _ => er_go rfl rfl,
  fun _ _ _ _ _ _ _ _ _ _ => er_go rfl rfl,
  fun _ _ _ _ _ _ _ _ _ _ _ _ => er_go rfl rfl,
  fun _ _ _ _ _ _ _ _ _ _ => er_go rfl rfl,
  fun _ _ _ _ _ _ _ _ _ _ _ => er_if_eq rfl,
  fun _ _ _ _ _ _ _ _ _ _ => er_go rfl rfl,
  fun _ _ _ _ _ _ _ _ _ _ => er_go rfl rfl,
  fun _ _ _ _ _ _ _ _ _ _ => er_go rfl rfl,
  fun _ _ _ _ _ _ _ _ _ _ _ _ => er_go rfl rfl,
  fun _ _ _ _ _ _ _ _ _ _ => er_ret rfl rfl⟩
theorem hd52_12 : ∀ (P : Nat × Nat) (l0 : Option Value) (l1 : Option Value) (l2 : Option Value) (l3 : Option Value) (l4 : Option Value) (l6 : Option Value) (x0 : Int32) (s : List Value) (h : am_H), am_E P 52 12 [l0, l1, l2, l3, l4, some (.int x0), l6] s h = am_E P 52 14 [l0, l1, l2, l3, l4, some (.int x0), l6] (.int x0 :: s) h := fun _ _ _ _ _ _ _ _ _ _ => er_go rfl rfl
/-- TwoStepOutputs.outputAt(I)LTwoStepOutputs$Output; -/
theorem r53 : (∀ (P : Nat × Nat) (l0 : Option Value) (x0 : Int32) (s : List Value) (h : am_H), am_E P 53 0 [l0, some (.int x0)] s h = am_E P 53 1 [l0, some (.int x0)] (.int x0 :: s) h) ∧
  (∀ (P : Nat × Nat) (l0 : Option Value) (l1 : Option Value) (x0 : Int32) (s : List Value) (h : am_H), am_E P 53 1 [l0, l1] (.int x0 :: s) h = if x0 < 0 then am_E P 53 15 [l0, l1] s h else am_E P 53 4 [l0, l1] s h) ∧
  (∀ (P : Nat × Nat) (l0 : Option Value) (x0 : Int32) (s : List Value) (h : am_H), am_E P 53 4 [l0, some (.int x0)] s h = am_E P 53 5 [l0, some (.int x0)] (.int x0 :: s) h) ∧
  (∀ (P : Nat × Nat) (l1 : Option Value) (a0 : Nat) (s : List Value) (h : am_H), am_E P 53 5 [some (.ref a0), l1] s h = am_E P 53 6 [some (.ref a0), l1] (.ref a0 :: s) h) ∧
  (∀ (P : Nat × Nat) (l1 : Option Value) (s : List Value) (h : am_H), am_E P 53 5 [some .null, l1] s h = am_E P 53 6 [some .null, l1] (.null :: s) h) ∧
  (∀ (P : Nat × Nat) (l0 : Option Value) (l1 : Option Value) (a0 : Nat) (s : List Value) (h : am_H), am_E P 53 6 [l0, l1] (.ref a0 :: s) h = (am_g1 h a0 8 0).bind (fun v => am_E P 53 9 [l0, l1] (v :: s) h)) ∧
  (∀ (P : Nat × Nat) (l0 : Option Value) (l1 : Option Value) (a0 : Nat) (v0 : Value) (h : am_H), am_E P 53 9 [l0, l1] [.ref a0, v0] h = if am_cls h a0 = some 0 then (am_E P 118 0 [some (.ref a0)] [] h).bind (fun q => am_E P 53 12 [l0, l1] (q.1.toList ++ [v0]) q.2) else none) ∧
  (∀ (P : Nat × Nat) (l0 : Option Value) (l1 : Option Value) (x0 : Int32) (x1 : Int32) (s : List Value) (h : am_H), am_E P 53 12 [l0, l1] (.int x1 :: .int x0 :: s) h = if x0 < x1 then am_E P 53 19 [l0, l1] s h else am_E P 53 15 [l0, l1] s h) ∧
  (∀ (P : Nat × Nat) (l0 : Option Value) (l1 : Option Value) (s : List Value) (h : am_H), am_E P 53 15 [l0, l1] s h = am_E P 53 16 [l0, l1] (.null :: s) h) ∧
  (∀ (P : Nat × Nat) (l0 : Option Value) (l1 : Option Value) (s : List Value) (h : am_H), am_E P 53 16 [l0, l1] s h = am_E P 53 30 [l0, l1] s h) ∧
  (∀ (P : Nat × Nat) (l1 : Option Value) (a0 : Nat) (s : List Value) (h : am_H), am_E P 53 19 [some (.ref a0), l1] s h = am_E P 53 20 [some (.ref a0), l1] (.ref a0 :: s) h) ∧
  (∀ (P : Nat × Nat) (l1 : Option Value) (s : List Value) (h : am_H), am_E P 53 19 [some .null, l1] s h = am_E P 53 20 [some .null, l1] (.null :: s) h) ∧
  (∀ (P : Nat × Nat) (l0 : Option Value) (l1 : Option Value) (a0 : Nat) (s : List Value) (h : am_H), am_E P 53 20 [l0, l1] (.ref a0 :: s) h = (am_g1 h a0 8 0).bind (fun v => am_E P 53 23 [l0, l1] (v :: s) h)) ∧
  (∀ (P : Nat × Nat) (l0 : Option Value) (x0 : Int32) (s : List Value) (h : am_H), am_E P 53 23 [l0, some (.int x0)] s h = am_E P 53 24 [l0, some (.int x0)] (.int x0 :: s) h) ∧
  (∀ (P : Nat × Nat) (l0 : Option Value) (l1 : Option Value) (a0 : Nat) (x0 : Int32) (h : am_H), am_E P 53 24 [l0, l1] [.int x0, .ref a0] h = if am_cls h a0 = some 0 then (am_E P 120 0 [some (.ref a0), some (.int x0)] [] h).bind (fun q => am_E P 53 27 [l0, l1] (q.1.toList ++ []) q.2) else none) ∧
  (∀ (P : Nat × Nat) (l0 : Option Value) (l1 : Option Value) (a0 : Nat) (s : List Value) (h : am_H), am_E P 53 27 [l0, l1] (.ref a0 :: s) h = if am_cls h a0 = some 4 then am_E P 53 30 [l0, l1] (.ref a0 :: s) h else none) ∧
  (∀ (P : Nat × Nat) (l0 : Option Value) (l1 : Option Value) (s : List Value) (h : am_H), am_E P 53 27 [l0, l1] (.null :: s) h = am_E P 53 30 [l0, l1] (.null :: s) h) ∧
  (∀ (P : Nat × Nat) (l0 : Option Value) (l1 : Option Value) (a0 : Nat) (h : am_H), am_E P 53 30 [l0, l1] [.ref a0] h = some (some (.ref a0), h)) ∧
  (∀ (P : Nat × Nat) (l0 : Option Value) (l1 : Option Value) (h : am_H), am_E P 53 30 [l0, l1] [.null] h = some (some .null, h)) :=
  ⟨fun _ _ _ _ _ => er_go rfl rfl,
  fun _ _ _ _ _ _ => er_if_lt rfl,
  fun _ _ _ _ _ => er_go rfl rfl,
  fun _ _ _ _ _ => er_go rfl rfl,
  fun _ _ _ _ => er_go rfl rfl,
  fun _ _ _ _ _ _ => er_get1 rfl,
  fun _ _ _ _ _ _ => er_callV rfl rfl rfl rfl,
  fun _ _ _ _ _ _ _ => er_ic_lt rfl,
  fun _ _ _ _ _ => er_go rfl rfl,
  fun _ _ _ _ _ => er_go rfl rfl,
  fun _ _ _ _ _ => er_go rfl rfl,
  fun _ _ _ _ => er_go rfl rfl,
  fun _ _ _ _ _ _ => er_get1 rfl,
  fun _ _ _ _ _ => er_go rfl rfl,
  fun _ _ _ _ _ _ => er_callV rfl rfl rfl rfl,
  fun _ _ _ _ _ _ => er_cast rfl,
  fun _ _ _ _ _ => er_go rfl rfl,
  fun _ _ _ _ _ => er_ret rfl rfl,
  fun _ _ _ _ => er_ret rfl rfl⟩
/-- TwoStepOutputs.readerAt(I)LTwoStepOutputs$Reader; -/
theorem r54 : (∀ (P : Nat × Nat) (l0 : Option Value) (x0 : Int32) (s : List Value) (h : am_H), am_E P 54 0 [l0, some (.int x0)] s h = am_E P 54 1 [l0, some (.int x0)] (.int x0 :: s) h) ∧
  (∀ (P : Nat × Nat) (l0 : Option Value) (l1 : Option Value) (x0 : Int32) (s : List Value) (h : am_H), am_E P 54 1 [l0, l1] (.int x0 :: s) h = if x0 < 0 then am_E P 54 15 [l0, l1] s h else am_E P 54 4 [l0, l1] s h) ∧
  (∀ (P : Nat × Nat) (l0 : Option Value) (x0 : Int32) (s : List Value) (h : am_H), am_E P 54 4 [l0, some (.int x0)] s h = am_E P 54 5 [l0, some (.int x0)] (.int x0 :: s) h) ∧
  (∀ (P : Nat × Nat) (l1 : Option Value) (a0 : Nat) (s : List Value) (h : am_H), am_E P 54 5 [some (.ref a0), l1] s h = am_E P 54 6 [some (.ref a0), l1] (.ref a0 :: s) h) ∧
  (∀ (P : Nat × Nat) (l1 : Option Value) (s : List Value) (h : am_H), am_E P 54 5 [some .null, l1] s h = am_E P 54 6 [some .null, l1] (.null :: s) h) ∧
  (∀ (P : Nat × Nat) (l0 : Option Value) (l1 : Option Value) (a0 : Nat) (s : List Value) (h : am_H), am_E P 54 6 [l0, l1] (.ref a0 :: s) h = (am_g1 h a0 8 1).bind (fun v => am_E P 54 9 [l0, l1] (v :: s) h)) ∧
  (∀ (P : Nat × Nat) (l0 : Option Value) (l1 : Option Value) (a0 : Nat) (v0 : Value) (h : am_H), am_E P 54 9 [l0, l1] [.ref a0, v0] h = if am_cls h a0 = some 0 then (am_E P 118 0 [some (.ref a0)] [] h).bind (fun q => am_E P 54 12 [l0, l1] (q.1.toList ++ [v0]) q.2) else none) ∧
  (∀ (P : Nat × Nat) (l0 : Option Value) (l1 : Option Value) (x0 : Int32) (x1 : Int32) (s : List Value) (h : am_H), am_E P 54 12 [l0, l1] (.int x1 :: .int x0 :: s) h = if x0 < x1 then am_E P 54 19 [l0, l1] s h else am_E P 54 15 [l0, l1] s h) ∧
  (∀ (P : Nat × Nat) (l0 : Option Value) (l1 : Option Value) (s : List Value) (h : am_H), am_E P 54 15 [l0, l1] s h = am_E P 54 16 [l0, l1] (.null :: s) h) ∧
  (∀ (P : Nat × Nat) (l0 : Option Value) (l1 : Option Value) (s : List Value) (h : am_H), am_E P 54 16 [l0, l1] s h = am_E P 54 30 [l0, l1] s h) ∧
  (∀ (P : Nat × Nat) (l1 : Option Value) (a0 : Nat) (s : List Value) (h : am_H), am_E P 54 19 [some (.ref a0), l1] s h = am_E P 54 20 [some (.ref a0), l1] (.ref a0 :: s) h) ∧
  (∀ (P : Nat × Nat) (l1 : Option Value) (s : List Value) (h : am_H), am_E P 54 19 [some .null, l1] s h = am_E P 54 20 [some .null, l1] (.null :: s) h) ∧
  (∀ (P : Nat × Nat) (l0 : Option Value) (l1 : Option Value) (a0 : Nat) (s : List Value) (h : am_H), am_E P 54 20 [l0, l1] (.ref a0 :: s) h = (am_g1 h a0 8 1).bind (fun v => am_E P 54 23 [l0, l1] (v :: s) h)) ∧
  (∀ (P : Nat × Nat) (l0 : Option Value) (x0 : Int32) (s : List Value) (h : am_H), am_E P 54 23 [l0, some (.int x0)] s h = am_E P 54 24 [l0, some (.int x0)] (.int x0 :: s) h) ∧
  (∀ (P : Nat × Nat) (l0 : Option Value) (l1 : Option Value) (a0 : Nat) (x0 : Int32) (h : am_H), am_E P 54 24 [l0, l1] [.int x0, .ref a0] h = if am_cls h a0 = some 0 then (am_E P 120 0 [some (.ref a0), some (.int x0)] [] h).bind (fun q => am_E P 54 27 [l0, l1] (q.1.toList ++ []) q.2) else none) ∧
  (∀ (P : Nat × Nat) (l0 : Option Value) (l1 : Option Value) (a0 : Nat) (s : List Value) (h : am_H), am_E P 54 27 [l0, l1] (.ref a0 :: s) h = if am_cls h a0 = some 6 then am_E P 54 30 [l0, l1] (.ref a0 :: s) h else none) ∧
  (∀ (P : Nat × Nat) (l0 : Option Value) (l1 : Option Value) (s : List Value) (h : am_H), am_E P 54 27 [l0, l1] (.null :: s) h = am_E P 54 30 [l0, l1] (.null :: s) h) ∧
  (∀ (P : Nat × Nat) (l0 : Option Value) (l1 : Option Value) (a0 : Nat) (h : am_H), am_E P 54 30 [l0, l1] [.ref a0] h = some (some (.ref a0), h)) ∧
  (∀ (P : Nat × Nat) (l0 : Option Value) (l1 : Option Value) (h : am_H), am_E P 54 30 [l0, l1] [.null] h = some (some .null, h)) :=
  ⟨fun _ _ _ _ _ => er_go rfl rfl,
  fun _ _ _ _ _ _ => er_if_lt rfl,
  fun _ _ _ _ _ => er_go rfl rfl,
  fun _ _ _ _ _ => er_go rfl rfl,
  fun _ _ _ _ => er_go rfl rfl,
  fun _ _ _ _ _ _ => er_get1 rfl,
  fun _ _ _ _ _ _ => er_callV rfl rfl rfl rfl,
  fun _ _ _ _ _ _ _ => er_ic_lt rfl,
  fun _ _ _ _ _ => er_go rfl rfl,
  fun _ _ _ _ _ => er_go rfl rfl,
  fun _ _ _ _ _ => er_go rfl rfl,
  fun _ _ _ _ => er_go rfl rfl,
  fun _ _ _ _ _ _ => er_get1 rfl,
  fun _ _ _ _ _ => er_go rfl rfl,
  fun _ _ _ _ _ _ => er_callV rfl rfl rfl rfl,
  fun _ _ _ _ _ _ => er_cast rfl,
  fun _ _ _ _ _ => er_go rfl rfl,
  fun _ _ _ _ _ => er_ret rfl rfl,
  fun _ _ _ _ => er_ret rfl rfl⟩
/-- TwoStepOutputs.isKey(I)Z -/
theorem r55 : (∀ (P : Nat × Nat) (x0 : Int32) (s : List Value) (h : am_H), am_E P 55 0 [some (.int x0)] s h = am_E P 55 1 [some (.int x0)] (.int x0 :: s) h) ∧
  (∀ (P : Nat × Nat) (l0 : Option Value) (x0 : Int32) (s : List Value) (h : am_H), am_E P 55 1 [l0] (.int x0 :: s) h = if x0 < 0 then am_E P 55 14 [l0] s h else am_E P 55 4 [l0] s h) ∧
  (∀ (P : Nat × Nat) (x0 : Int32) (s : List Value) (h : am_H), am_E P 55 4 [some (.int x0)] s h = am_E P 55 5 [some (.int x0)] (.int x0 :: s) h) ∧
  (∀ (P : Nat × Nat) (l0 : Option Value) (s : List Value) (h : am_H), am_E P 55 5 [l0] s h = am_E P 55 7 [l0] (.int 10 :: s) h) ∧
  (∀ (P : Nat × Nat) (l0 : Option Value) (x0 : Int32) (x1 : Int32) (s : List Value) (h : am_H), am_E P 55 7 [l0] (.int x1 :: .int x0 :: s) h = if x1 ≤ x0 then am_E P 55 14 [l0] s h else am_E P 55 10 [l0] s h) ∧
  (∀ (P : Nat × Nat) (l0 : Option Value) (s : List Value) (h : am_H), am_E P 55 10 [l0] s h = am_E P 55 11 [l0] (.int 1 :: s) h) ∧
  (∀ (P : Nat × Nat) (l0 : Option Value) (s : List Value) (h : am_H), am_E P 55 11 [l0] s h = am_E P 55 15 [l0] s h) ∧
  (∀ (P : Nat × Nat) (l0 : Option Value) (s : List Value) (h : am_H), am_E P 55 14 [l0] s h = am_E P 55 15 [l0] (.int 0 :: s) h) ∧
  (∀ (P : Nat × Nat) (l0 : Option Value) (x0 : Int32) (h : am_H), am_E P 55 15 [l0] [.int x0] h = if x0 = 0 ∨ x0 = 1 then some (some (.int x0), h) else none) :=
  ⟨fun _ _ _ _ => er_go rfl rfl,
  fun _ _ _ _ _ => er_if_lt rfl,
  fun _ _ _ _ => er_go rfl rfl,
  fun _ _ _ _ => er_go rfl rfl,
  fun _ _ _ _ _ _ => er_ic_ge rfl,
  fun _ _ _ _ => er_go rfl rfl,
  fun _ _ _ _ => er_go rfl rfl,
  fun _ _ _ _ => er_go rfl rfl,
  fun _ _ _ _ => er_retZ rfl rfl⟩
/-- TwoStepOutputs.isMark(I)Z -/
theorem r56 : (∀ (P : Nat × Nat) (x0 : Int32) (s : List Value) (h : am_H), am_E P 56 0 [some (.int x0)] s h = am_E P 56 1 [some (.int x0)] (.int x0 :: s) h) ∧
  (∀ (P : Nat × Nat) (l0 : Option Value) (x0 : Int32) (s : List Value) (h : am_H), am_E P 56 1 [l0] (.int x0 :: s) h = if x0 < 0 then am_E P 56 14 [l0] s h else am_E P 56 4 [l0] s h) ∧
  (∀ (P : Nat × Nat) (x0 : Int32) (s : List Value) (h : am_H), am_E P 56 4 [some (.int x0)] s h = am_E P 56 5 [some (.int x0)] (.int x0 :: s) h) ∧
  (∀ (P : Nat × Nat) (l0 : Option Value) (s : List Value) (h : am_H), am_E P 56 5 [l0] s h = am_E P 56 7 [l0] (.int 1000000 :: s) h) ∧
  (∀ (P : Nat × Nat) (l0 : Option Value) (x0 : Int32) (x1 : Int32) (s : List Value) (h : am_H), am_E P 56 7 [l0] (.int x1 :: .int x0 :: s) h = if x1 < x0 then am_E P 56 14 [l0] s h else am_E P 56 10 [l0] s h) ∧
  (∀ (P : Nat × Nat) (l0 : Option Value) (s : List Value) (h : am_H), am_E P 56 10 [l0] s h = am_E P 56 11 [l0] (.int 1 :: s) h) ∧
  (∀ (P : Nat × Nat) (l0 : Option Value) (s : List Value) (h : am_H), am_E P 56 11 [l0] s h = am_E P 56 15 [l0] s h) ∧
  (∀ (P : Nat × Nat) (l0 : Option Value) (s : List Value) (h : am_H), am_E P 56 14 [l0] s h = am_E P 56 15 [l0] (.int 0 :: s) h) ∧
  (∀ (P : Nat × Nat) (l0 : Option Value) (x0 : Int32) (h : am_H), am_E P 56 15 [l0] [.int x0] h = if x0 = 0 ∨ x0 = 1 then some (some (.int x0), h) else none) :=
  ⟨fun _ _ _ _ => er_go rfl rfl,
  fun _ _ _ _ _ => er_if_lt rfl,
  fun _ _ _ _ => er_go rfl rfl,
  fun _ _ _ _ => er_go rfl rfl,
  fun _ _ _ _ _ _ => er_ic_gt rfl,
  fun _ _ _ _ => er_go rfl rfl,
  fun _ _ _ _ => er_go rfl rfl,
  fun _ _ _ _ => er_go rfl rfl,
  fun _ _ _ _ => er_retZ rfl rfl⟩
/-- TwoStepOutputs.greatestMark()I -/
theorem r57 : (∀ (P : Nat × Nat) (a0 : Nat) (s : List Value) (h : am_H), am_E P 57 0 [some (.ref a0)] s h = am_E P 57 1 [some (.ref a0)] (.ref a0 :: s) h) ∧
  (∀ (P : Nat × Nat) (s : List Value) (h : am_H), am_E P 57 0 [some .null] s h = am_E P 57 1 [some .null] (.null :: s) h) ∧
  (∀ (P : Nat × Nat) (l0 : Option Value) (a0 : Nat) (s : List Value) (h : am_H), am_E P 57 1 [l0] (.ref a0 :: s) h = (am_g1 h a0 8 3).bind (fun v => am_E P 57 4 [l0] (v :: s) h)) ∧
  (∀ (P : Nat × Nat) (l0 : Option Value) (a0 : Nat) (h : am_H), am_E P 57 4 [l0] [.ref a0] h = if am_cls h a0 = some 1 then (am_E P 3 0 [some (.ref a0)] [] h).bind (fun q => am_E P 57 7 [l0] (q.1.toList ++ []) q.2) else none) ∧
  (∀ (P : Nat × Nat) (a0 : Nat) (s : List Value) (h : am_H), am_E P 57 7 [some (.ref a0)] s h = am_E P 57 8 [some (.ref a0)] (.ref a0 :: s) h) ∧
  (∀ (P : Nat × Nat) (s : List Value) (h : am_H), am_E P 57 7 [some .null] s h = am_E P 57 8 [some .null] (.null :: s) h) ∧
  (∀ (P : Nat × Nat) (l0 : Option Value) (a0 : Nat) (s : List Value) (h : am_H), am_E P 57 8 [l0] (.ref a0 :: s) h = (am_g1 h a0 8 4).bind (fun v => am_E P 57 11 [l0] (v :: s) h)) ∧
  (∀ (P : Nat × Nat) (l0 : Option Value) (x0 : Int32) (x1 : Int32) (h : am_H), am_E P 57 11 [l0] [.int x1, .int x0] h = (am_E P 111 0 [some (.int x0), some (.int x1)] [] h).bind (fun q => am_E P 57 14 [l0] (q.1.toList ++ []) q.2)) ∧
  (∀ (P : Nat × Nat) (l0 : Option Value) (x0 : Int32) (h : am_H), am_E P 57 14 [l0] [.int x0] h = some (some (.int x0), h)) :=
  ⟨fun _ _ _ _ => er_go rfl rfl,
  fun _ _ _ => er_go rfl rfl,
  fun _ _ _ _ _ => er_get1 rfl,
  fun _ _ _ _ => er_callV rfl rfl rfl rfl,
  fun _ _ _ _ => er_go rfl rfl,
  fun _ _ _ => er_go rfl rfl,
  fun _ _ _ _ _ => er_get1 rfl,
  fun _ _ _ _ _ => er_callS rfl rfl rfl,
  fun _ _ _ _ => er_ret rfl rfl⟩
/-- TwoStepOutputs.mayAct()Z -/
theorem r58 : (∀ (P : Nat × Nat) (a0 : Nat) (s : List Value) (h : am_H), am_E P 58 0 [some (.ref a0)] s h = am_E P 58 1 [some (.ref a0)] (.ref a0 :: s) h) ∧
  (∀ (P : Nat × Nat) (s : List Value) (h : am_H), am_E P 58 0 [some .null] s h = am_E P 58 1 [some .null] (.null :: s) h) ∧
  (∀ (P : Nat × Nat) (l0 : Option Value) (a0 : Nat) (s : List Value) (h : am_H), am_E P 58 1 [l0] (.ref a0 :: s) h = (am_g1 h a0 8 7).bind (fun v => am_E P 58 4 [l0] (v :: s) h)) ∧
  (∀ (P : Nat × Nat) (l0 : Option Value) (s : List Value) (h : am_H), am_E P 58 4 [l0] s h = am_E P 58 5 [l0] (.int 1 :: s) h) ∧
  (∀ (P : Nat × Nat) (l0 : Option Value) (x0 : Int32) (x1 : Int32) (s : List Value) (h : am_H), am_E P 58 5 [l0] (.int x1 :: .int x0 :: s) h = if x0 = x1 then am_E P 58 8 [l0] s h else am_E P 58 24 [l0] s h) ∧
  (∀ (P : Nat × Nat) (a0 : Nat) (s : List Value) (h : am_H), am_E P 58 8 [some (.ref a0)] s h = am_E P 58 9 [some (.ref a0)] (.ref a0 :: s) h) ∧
  (∀ (P : Nat × Nat) (s : List Value) (h : am_H), am_E P 58 8 [some .null] s h = am_E P 58 9 [some .null] (.null :: s) h) ∧
  (∀ (P : Nat × Nat) (l0 : Option Value) (s : List Value) (h : am_H), am_E P 58 9 [l0] s h = am_E P 58 10 [l0] (.int 0 :: s) h) ∧
  (∀ (P : Nat × Nat) (l0 : Option Value) (a0 : Nat) (x0 : Int32) (s : List Value) (h : am_H), am_E P 58 10 [l0] (.int x0 :: .ref a0 :: s) h = (am_p1 h a0 8 7 (.int x0)).bind (fun h => am_E P 58 13 [l0] s h)) ∧
  (∀ (P : Nat × Nat) (a0 : Nat) (s : List Value) (h : am_H), am_E P 58 13 [some (.ref a0)] s h = am_E P 58 14 [some (.ref a0)] (.ref a0 :: s) h) ∧
  (∀ (P : Nat × Nat) (s : List Value) (h : am_H), am_E P 58 13 [some .null] s h = am_E P 58 14 [some .null] (.null :: s) h) ∧
  (∀ (P : Nat × Nat) (l0 : Option Value) (s : List Value) (h : am_H), am_E P 58 14 [l0] s h = am_E P 58 15 [l0] (.int 1 :: s) h) ∧
  (∀ (P : Nat × Nat) (l0 : Option Value) (a0 : Nat) (x0 : Int32) (s : List Value) (h : am_H), am_E P 58 15 [l0] (.int x0 :: .ref a0 :: s) h = if x0 = 0 ∨ x0 = 1 then (am_p1 h a0 8 6 (.int x0)).bind (fun h => am_E P 58 18 [l0] s h) else none) ∧
  (∀ (P : Nat × Nat) (a0 : Nat) (s : List Value) (h : am_H), am_E P 58 18 [some (.ref a0)] s h = am_E P 58 19 [some (.ref a0)] (.ref a0 :: s) h) ∧
  (∀ (P : Nat × Nat) (s : List Value) (h : am_H), am_E P 58 18 [some .null] s h = am_E P 58 19 [some .null] (.null :: s) h) ∧
  (∀ (P : Nat × Nat) (l0 : Option Value) (a0 : Nat) (h : am_H), am_E P 58 19 [l0] [.ref a0] h = if am_cls h a0 = some 8 then (am_E P 59 0 [some (.ref a0), none] [] h).bind (fun q => am_E P 58 22 [l0] (q.1.toList ++ []) q.2) else none) ∧
  (∀ (P : Nat × Nat) (l0 : Option Value) (s : List Value) (h : am_H), am_E P 58 22 [l0] s h = am_E P 58 23 [l0] (.int 0 :: s) h) ∧
  (∀ (P : Nat × Nat) (l0 : Option Value) (x0 : Int32) (h : am_H), am_E P 58 23 [l0] [.int x0] h = if x0 = 0 ∨ x0 = 1 then some (some (.int x0), h) else none) ∧
  (∀ (P : Nat × Nat) (a0 : Nat) (s : List Value) (h : am_H), am_E P 58 24 [some (.ref a0)] s h = am_E P 58 25 [some (.ref a0)] (.ref a0 :: s) h) ∧
  (∀ (P : Nat × Nat) (s : List Value) (h : am_H), am_E P 58 24 [some .null] s h = am_E P 58 25 [some .null] (.null :: s) h) ∧
  (∀ (P : Nat × Nat) (l0 : Option Value) (a0 : Nat) (s : List Value) (h : am_H), am_E P 58 25 [l0] (.ref a0 :: s) h = (am_g1 h a0 8 7).bind (fun v => am_E P 58 28 [l0] (v :: s) h)) ∧
  (∀ (P : Nat × Nat) (l0 : Option Value) (s : List Value) (h : am_H), am_E P 58 28 [l0] s h = am_E P 58 29 [l0] (.int 1 :: s) h) ∧
  (∀ (P : Nat × Nat) (l0 : Option Value) (x0 : Int32) (x1 : Int32) (s : List Value) (h : am_H), am_E P 58 29 [l0] (.int x1 :: .int x0 :: s) h = if x0 ≤ x1 then am_E P 58 42 [l0] s h else am_E P 58 32 [l0] s h) ∧
  (∀ (P : Nat × Nat) (a0 : Nat) (s : List Value) (h : am_H), am_E P 58 32 [some (.ref a0)] s h = am_E P 58 33 [some (.ref a0)] (.ref a0 :: s) h) ∧
  (∀ (P : Nat × Nat) (s : List Value) (h : am_H), am_E P 58 32 [some .null] s h = am_E P 58 33 [some .null] (.null :: s) h) ∧
  (∀ (P : Nat × Nat) (l0 : Option Value) (a0 : Nat) (s : List Value) (h : am_H), am_E P 58 33 [l0] (.ref a0 :: s) h = am_E P 58 34 [l0] (.ref a0 :: .ref a0 :: s) h) ∧
  (∀ (P : Nat × Nat) (l0 : Option Value) (a0 : Nat) (s : List Value) (h : am_H), am_E P 58 34 [l0] (.ref a0 :: s) h = (am_g1 h a0 8 7).bind (fun v => am_E P 58 37 [l0] (v :: s) h)) ∧
  (∀ (P : Nat × Nat) (l0 : Option Value) (s : List Value) (h : am_H), am_E P 58 37 [l0] s h = am_E P 58 38 [l0] (.int 1 :: s) h) ∧
  (∀ (P : Nat × Nat) (l0 : Option Value) (x0 : Int32) (x1 : Int32) (s : List Value) (h : am_H), am_E P 58 38 [l0] (.int x1 :: .int x0 :: s) h = am_E P 58 39 [l0] (.int (x0 - x1) :: s) h) ∧
  (∀ (P : Nat × Nat) (l0 : Option Value) (a0 : Nat) (x0 : Int32) (s : List Value) (h : am_H), am_E P 58 39 [l0] (.int x0 :: .ref a0 :: s) h = (am_p1 h a0 8 7 (.int x0)).bind (fun h => am_E P 58 42 [l0] s h)) ∧
  (∀ (P : Nat × Nat) (a0 : Nat) (s : List Value) (h : am_H), am_E P 58 42 [some (.ref a0)] s h = am_E P 58 43 [some (.ref a0)] (.ref a0 :: s) h) ∧
  (∀ (P : Nat × Nat) (s : List Value) (h : am_H), am_E P 58 42 [some .null] s h = am_E P 58 43 [some .null] (.null :: s) h) ∧
  (∀ (P : Nat × Nat) (l0 : Option Value) (a0 : Nat) (s : List Value) (h : am_H), am_E P 58 43 [l0] (.ref a0 :: s) h = am_E P 58 44 [l0] (.ref a0 :: .ref a0 :: s) h) ∧
  (∀ (P : Nat × Nat) (l0 : Option Value) (a0 : Nat) (s : List Value) (h : am_H), am_E P 58 44 [l0] (.ref a0 :: s) h = (am_g1 h a0 8 8).bind (fun v => am_E P 58 47 [l0] (v :: s) h)) ∧
  (∀ (P : Nat × Nat) (l0 : Option Value) (s : List Value) (h : am_H), am_E P 58 47 [l0] s h = am_E P 58 48 [l0] (.int 1 :: s) h) ∧
  (∀ (P : Nat × Nat) (l0 : Option Value) (x0 : Int32) (x1 : Int32) (s : List Value) (h : am_H), am_E P 58 48 [l0] (.int x1 :: .int x0 :: s) h = am_E P 58 49 [l0] (.int (x0 + x1) :: s) h) ∧
  (∀ (P : Nat × Nat) (l0 : Option Value) (a0 : Nat) (x0 : Int32) (s : List Value) (h : am_H), am_E P 58 49 [l0] (.int x0 :: .ref a0 :: s) h = (am_p1 h a0 8 8 (.int x0)).bind (fun h => am_E P 58 52 [l0] s h)) ∧
  (∀ (P : Nat × Nat) (l0 : Option Value) (s : List Value) (h : am_H), am_E P 58 52 [l0] s h = am_E P 58 53 [l0] (.int 1 :: s) h) ∧
  (∀ (P : Nat × Nat) (l0 : Option Value) (x0 : Int32) (h : am_H), am_E P 58 53 [l0] [.int x0] h = if x0 = 0 ∨ x0 = 1 then some (some (.int x0), h) else none) :=
  ⟨fun _ _ _ _ => er_go rfl rfl,
  fun _ _ _ => er_go rfl rfl,
  fun _ _ _ _ _ => er_get1 rfl,
  fun _ _ _ _ => er_go rfl rfl,
  fun _ _ _ _ _ _ => er_ic_ne rfl,
  fun _ _ _ _ => er_go rfl rfl,
  fun _ _ _ => er_go rfl rfl,
  fun _ _ _ _ => er_go rfl rfl,
  fun _ _ _ _ _ _ => er_put1 rfl rfl,
  fun _ _ _ _ => er_go rfl rfl,
  fun _ _ _ => er_go rfl rfl,
  fun _ _ _ _ => er_go rfl rfl,
  fun _ _ _ _ _ _ => er_putZ rfl rfl,
  fun _ _ _ _ => er_go rfl rfl,
  fun _ _ _ => er_go rfl rfl,
  fun _ _ _ _ => er_callV rfl rfl rfl rfl,
  fun _ _ _ _ => er_go rfl rfl,
  fun _ _ _ _ => er_retZ rfl rfl,
  fun _ _ _ _ => er_go rfl rfl,
  fun _ _ _ => er_go rfl rfl,
  fun _ _ _ _ _ => er_get1 rfl,
  fun _ _ _ _ => er_go rfl rfl,
  fun _ _ _ _ _ _ => er_ic_le rfl,
  fun _ _ _ _ => er_go rfl rfl,
  fun _ _ _ => er_go rfl rfl,
  fun _ _ _ _ _ => er_go rfl rfl,
  fun _ _ _ _ _ => er_get1 rfl,
  fun _ _ _ _ => er_go rfl rfl,
  fun _ _ _ _ _ _ => er_go rfl rfl,
  fun _ _ _ _ _ _ => er_put1 rfl rfl,
  fun _ _ _ _ => er_go rfl rfl,
  fun _ _ _ => er_go rfl rfl,
  fun _ _ _ _ _ => er_go rfl rfl,
  fun _ _ _ _ _ => er_get1 rfl,
  fun _ _ _ _ => er_go rfl rfl,
  fun _ _ _ _ _ _ => er_go rfl rfl,
  fun _ _ _ _ _ _ => er_put1 rfl rfl,
  fun _ _ _ _ => er_go rfl rfl,
  fun _ _ _ _ => er_retZ rfl rfl⟩
/-- TwoStepOutputs.emptyOpenParts()V -/
theorem r59 : (∀ (P : Nat × Nat) (l0 : Option Value) (l1 : Option Value) (s : List Value) (h : am_H), am_E P 59 0 [l0, l1] s h = am_E P 59 1 [l0, l1] (.int 0 :: s) h) ∧
  (∀ (P : Nat × Nat) (l0 : Option Value) (l1 : Option Value) (x0 : Int32) (s : List Value) (h : am_H), am_E P 59 1 [l0, l1] (.int x0 :: s) h = am_E P 59 2 [l0, some (.int x0)] s h) ∧
  (∀ (P : Nat × Nat) (l1 : Option Value) (a0 : Nat) (s : List Value) (h : am_H), am_E P 59 3 [some (.ref a0), l1] s h = am_E P 59 4 [some (.ref a0), l1] (.ref a0 :: s) h) ∧
  (∀ (P : Nat × Nat) (l1 : Option Value) (s : List Value) (h : am_H), am_E P 59 3 [some .null, l1] s h = am_E P 59 4 [some .null, l1] (.null :: s) h) ∧
  (∀ (P : Nat × Nat) (l0 : Option Value) (l1 : Option Value) (a0 : Nat) (s : List Value) (h : am_H), am_E P 59 4 [l0, l1] (.ref a0 :: s) h = (am_g1 h a0 8 0).bind (fun v => am_E P 59 7 [l0, l1] (v :: s) h)) ∧
  (∀ (P : Nat × Nat) (l0 : Option Value) (l1 : Option Value) (a0 : Nat) (v0 : Value) (h : am_H), am_E P 59 7 [l0, l1] [.ref a0, v0] h = if am_cls h a0 = some 0 then (am_E P 118 0 [some (.ref a0)] [] h).bind (fun q => am_E P 59 10 [l0, l1] (q.1.toList ++ [v0]) q.2) else none) ∧
  (∀ (P : Nat × Nat) (l0 : Option Value) (l1 : Option Value) (x0 : Int32) (x1 : Int32) (s : List Value) (h : am_H), am_E P 59 10 [l0, l1] (.int x1 :: .int x0 :: s) h = if x1 ≤ x0 then am_E P 59 34 [l0, l1] s h else am_E P 59 13 [l0, l1] s h) ∧
  (∀ (P : Nat × Nat) (l1 : Option Value) (a0 : Nat) (s : List Value) (h : am_H), am_E P 59 13 [some (.ref a0), l1] s h = am_E P 59 14 [some (.ref a0), l1] (.ref a0 :: s) h) ∧
  (∀ (P : Nat × Nat) (l1 : Option Value) (s : List Value) (h : am_H), am_E P 59 13 [some .null, l1] s h = am_E P 59 14 [some .null, l1] (.null :: s) h) ∧
  (∀ (P : Nat × Nat) (l0 : Option Value) (l1 : Option Value) (a0 : Nat) (s : List Value) (h : am_H), am_E P 59 14 [l0, l1] (.ref a0 :: s) h = (am_g1 h a0 8 0).bind (fun v => am_E P 59 17 [l0, l1] (v :: s) h)) ∧
  (∀ (P : Nat × Nat) (l0 : Option Value) (x0 : Int32) (s : List Value) (h : am_H), am_E P 59 17 [l0, some (.int x0)] s h = am_E P 59 18 [l0, some (.int x0)] (.int x0 :: s) h) ∧
  (∀ (P : Nat × Nat) (l0 : Option Value) (l1 : Option Value) (a0 : Nat) (x0 : Int32) (h : am_H), am_E P 59 18 [l0, l1] [.int x0, .ref a0] h = if am_cls h a0 = some 0 then (am_E P 120 0 [some (.ref a0), some (.int x0)] [] h).bind (fun q => am_E P 59 21 [l0, l1] (q.1.toList ++ []) q.2) else none) ∧
  (∀ (P : Nat × Nat) (l0 : Option Value) (l1 : Option Value) (a0 : Nat) (s : List Value) (h : am_H), am_E P 59 21 [l0, l1] (.ref a0 :: s) h = if am_cls h a0 = some 4 then am_E P 59 24 [l0, l1] (.ref a0 :: s) h else none) ∧
  (∀ (P : Nat × Nat) (l0 : Option Value) (l1 : Option Value) (s : List Value) (h : am_H), am_E P 59 21 [l0, l1] (.null :: s) h = am_E P 59 24 [l0, l1] (.null :: s) h) ∧
  (∀ (P : Nat × Nat) (l0 : Option Value) (l1 : Option Value) (s : List Value) (h : am_H), am_E P 59 24 [l0, l1] s h = am_E P 59 25 [l0, l1] (.int 0 :: s) h) ∧
  (∀ (P : Nat × Nat) (l0 : Option Value) (l1 : Option Value) (a0 : Nat) (x0 : Int32) (s : List Value) (h : am_H), am_E P 59 25 [l0, l1] (.int x0 :: .ref a0 :: s) h = (am_p1 h a0 4 4 (.int x0)).bind (fun h => am_E P 59 28 [l0, l1] s h)) ∧
  (∀ (P : Nat × Nat) (l0 : Option Value) (x0 : Int32) (s : List Value) (h : am_H), am_E P 59 28 [l0, some (.int x0)] s h = am_E P 59 31 [l0, some (.int (x0 + 1))] s h) ∧
  (∀ (P : Nat × Nat) (l0 : Option Value) (l1 : Option Value) (s : List Value) (h : am_H), am_E P 59 31 [l0, l1] s h = am_E P 59 2 [l0, l1] s h) ∧
  (∀ (P : Nat × Nat) (l0 : Option Value) (l1 : Option Value) (h : am_H), am_E P 59 34 [l0, l1] [] h = some (none, h)) :=
  ⟨fun _ _ _ _ _ => er_go rfl rfl,
  fun _ _ _ _ _ _ => er_go rfl rfl,
  fun _ _ _ _ _ => er_go rfl rfl,
  fun _ _ _ _ => er_go rfl rfl,
  fun _ _ _ _ _ _ => er_get1 rfl,
  fun _ _ _ _ _ _ => er_callV rfl rfl rfl rfl,
  fun _ _ _ _ _ _ _ => er_ic_ge rfl,
  fun _ _ _ _ _ => er_go rfl rfl,
  fun _ _ _ _ => er_go rfl rfl,
  fun _ _ _ _ _ _ => er_get1 rfl,
  fun _ _ _ _ _ => er_go rfl rfl,
  fun _ _ _ _ _ _ => er_callV rfl rfl rfl rfl,
  fun _ _ _ _ _ _ => er_cast rfl,
  fun _ _ _ _ _ => er_go rfl rfl,
  fun _ _ _ _ _ => er_go rfl rfl,
  fun _ _ _ _ _ _ _ => er_put1 rfl rfl,
  fun _ _ _ _ _ => er_go rfl rfl,
  fun _ _ _ _ _ => er_go rfl rfl,
  fun _ _ _ _ => er_ret rfl rfl⟩
theorem hd59_2 : ∀ (P : Nat × Nat) (l0 : Option Value) (x0 : Int32) (s : List Value) (h : am_H), am_E P 59 2 [l0, some (.int x0)] s h = am_E P 59 3 [l0, some (.int x0)] (.int x0 :: s) h := fun _ _ _ _ _ => er_go rfl rfl
/-- TwoStepOutputs.writeRecord(IIIII)Z -/
theorem r60 : (∀ (P : Nat × Nat) (l1 : Option Value) (l2 : Option Value) (l3 : Option Value) (l4 : Option Value) (l5 : Option Value) (a0 : Nat) (s : List Value) (h : am_H), am_E P 60 0 [some (.ref a0), l1, l2, l3, l4, l5] s h = am_E P 60 1 [some (.ref a0), l1, l2, l3, l4, l5] (.ref a0 :: s) h) ∧
  (∀ (P : Nat × Nat) (l1 : Option Value) (l2 : Option Value) (l3 : Option Value) (l4 : Option Value) (l5 : Option Value) (s : List Value) (h : am_H), am_E P 60 0 [some .null, l1, l2, l3, l4, l5] s h = am_E P 60 1 [some .null, l1, l2, l3, l4, l5] (.null :: s) h) ∧
  (∀ (P : Nat × Nat) (l0 : Option Value) (l1 : Option Value) (l2 : Option Value) (l3 : Option Value) (l4 : Option Value) (l5 : Option Value) (a0 : Nat) (h : am_H), am_E P 60 1 [l0, l1, l2, l3, l4, l5] [.ref a0] h = if am_cls h a0 = some 8 then (am_E P 58 0 [some (.ref a0)] [] h).bind (fun q => am_E P 60 4 [l0, l1, l2, l3, l4, l5] (q.1.toList ++ []) q.2) else none) ∧
  (∀ (P : Nat × Nat) (l0 : Option Value) (l1 : Option Value) (l2 : Option Value) (l3 : Option Value) (l4 : Option Value) (l5 : Option Value) (x0 : Int32) (s : List Value) (h : am_H), am_E P 60 4 [l0, l1, l2, l3, l4, l5] (.int x0 :: s) h = if x0 = 0 then am_E P 60 7 [l0, l1, l2, l3, l4, l5] s h else am_E P 60 9 [l0, l1, l2, l3, l4, l5] s h) ∧
  (∀ (P : Nat × Nat) (l0 : Option Value) (l1 : Option Value) (l2 : Option Value) (l3 : Option Value) (l4 : Option Value) (l5 : Option Value) (s : List Value) (h : am_H), am_E P 60 7 [l0, l1, l2, l3, l4, l5] s h = am_E P 60 8 [l0, l1, l2, l3, l4, l5] (.int 0 :: s) h) ∧
  (∀ (P : Nat × Nat) (l0 : Option Value) (l1 : Option Value) (l2 : Option Value) (l3 : Option Value) (l4 : Option Value) (l5 : Option Value) (x0 : Int32) (h : am_H), am_E P 60 8 [l0, l1, l2, l3, l4, l5] [.int x0] h = if x0 = 0 ∨ x0 = 1 then some (some (.int x0), h) else none) ∧
  (∀ (P : Nat × Nat) (l1 : Option Value) (l2 : Option Value) (l3 : Option Value) (l4 : Option Value) (l5 : Option Value) (a0 : Nat) (s : List Value) (h : am_H), am_E P 60 9 [some (.ref a0), l1, l2, l3, l4, l5] s h = am_E P 60 10 [some (.ref a0), l1, l2, l3, l4, l5] (.ref a0 :: s) h) ∧
  (∀ (P : Nat × Nat) (l1 : Option Value) (l2 : Option Value) (l3 : Option Value) (l4 : Option Value) (l5 : Option Value) (s : List Value) (h : am_H), am_E P 60 9 [some .null, l1, l2, l3, l4, l5] s h = am_E P 60 10 [some .null, l1, l2, l3, l4, l5] (.null :: s) h) ∧
  (∀ (P : Nat × Nat) (l0 : Option Value) (l1 : Option Value) (l2 : Option Value) (l3 : Option Value) (l4 : Option Value) (l5 : Option Value) (a0 : Nat) (s : List Value) (h : am_H), am_E P 60 10 [l0, l1, l2, l3, l4, l5] (.ref a0 :: s) h = (am_g1 h a0 8 2).bind (fun v => am_E P 60 13 [l0, l1, l2, l3, l4, l5] (v :: s) h)) ∧
  (∀ (P : Nat × Nat) (l0 : Option Value) (l2 : Option Value) (l3 : Option Value) (l4 : Option Value) (l5 : Option Value) (x0 : Int32) (s : List Value) (h : am_H), am_E P 60 13 [l0, some (.int x0), l2, l3, l4, l5] s h = am_E P 60 14 [l0, some (.int x0), l2, l3, l4, l5] (.int x0 :: s) h) ∧
  (∀ (P : Nat × Nat) (l0 : Option Value) (l1 : Option Value) (l3 : Option Value) (l4 : Option Value) (l5 : Option Value) (x0 : Int32) (s : List Value) (h : am_H), am_E P 60 14 [l0, l1, some (.int x0), l3, l4, l5] s h = am_E P 60 15 [l0, l1, some (.int x0), l3, l4, l5] (.int x0 :: s) h) ∧
  (∀ (P : Nat × Nat) (l0 : Option Value) (l1 : Option Value) (l2 : Option Value) (l4 : Option Value) (l5 : Option Value) (x0 : Int32) (s : List Value) (h : am_H), am_E P 60 15 [l0, l1, l2, some (.int x0), l4, l5] s h = am_E P 60 16 [l0, l1, l2, some (.int x0), l4, l5] (.int x0 :: s) h) ∧
  (∀ (P : Nat × Nat) (l0 : Option Value) (l1 : Option Value) (l2 : Option Value) (l3 : Option Value) (l5 : Option Value) (x0 : Int32) (s : List Value) (h : am_H), am_E P 60 16 [l0, l1, l2, l3, some (.int x0), l5] s h = am_E P 60 18 [l0, l1, l2, l3, some (.int x0), l5] (.int x0 :: s) h) ∧
  (∀ (P : Nat × Nat) (l0 : Option Value) (l1 : Option Value) (l2 : Option Value) (l3 : Option Value) (l4 : Option Value) (x0 : Int32) (s : List Value) (h : am_H), am_E P 60 18 [l0, l1, l2, l3, l4, some (.int x0)] s h = am_E P 60 20 [l0, l1, l2, l3, l4, some (.int x0)] (.int x0 :: s) h) ∧
  (∀ (P : Nat × Nat) (l0 : Option Value) (l1 : Option Value) (l2 : Option Value) (l3 : Option Value) (l4 : Option Value) (l5 : Option Value) (a0 : Nat) (x0 : Int32) (x1 : Int32) (x2 : Int32) (x3 : Int32) (x4 : Int32) (h : am_H), am_E P 60 20 [l0, l1, l2, l3, l4, l5] [.int x4, .int x3, .int x2, .int x1, .int x0, .ref a0] h = if am_cls h a0 = some 2 then (am_E P 6 0 [some (.ref a0), some (.int x0), some (.int x1), some (.int x2), some (.int x3), some (.int x4), none] [] h).bind (fun q => am_E P 60 23 [l0, l1, l2, l3, l4, l5] (q.1.toList ++ []) q.2) else none) ∧
  (∀ (P : Nat × Nat) (l0 : Option Value) (l1 : Option Value) (l2 : Option Value) (l3 : Option Value) (l4 : Option Value) (l5 : Option Value) (s : List Value) (h : am_H), am_E P 60 23 [l0, l1, l2, l3, l4, l5] s h = am_E P 60 24 [l0, l1, l2, l3, l4, l5] (.int 1 :: s) h) ∧
  (∀ (P : Nat × Nat) (l0 : Option Value) (l1 : Option Value) (l2 : Option Value) (l3 : Option Value) (l4 : Option Value) (l5 : Option Value) (x0 : Int32) (h : am_H), am_E P 60 24 [l0, l1, l2, l3, l4, l5] [.int x0] h = if x0 = 0 ∨ x0 = 1 then some (some (.int x0), h) else none) :=
  ⟨fun _ _ _ _ _ _ _ _ _ => er_go rfl rfl,
  fun _ _ _ _ _ _ _ _ => er_go rfl rfl,
  fun _ _ _ _ _ _ _ _ _ => er_callV rfl rfl rfl rfl,
  fun _ _ _ _ _ _ _ _ _ _ => er_if_ne rfl,
  fun _ _ _ _ _ _ _ _ _ => er_go rfl rfl,
  fun _ _ _ _ _ _ _ _ _ => er_retZ rfl rfl,
  fun _ _ _ _ _ _ _ _ _ => er_go rfl rfl,
  fun _ _ _ _ _ _ _ _ => er_go rfl rfl,
  fun _ _ _ _ _ _ _ _ _ _ => er_get1 rfl,
  fun _ _ _ _ _ _ _ _ _ => er_go rfl rfl,
  fun _ _ _ _ _ _ _ _ _ => er_go rfl rfl,
  fun _ _ _ _ _ _ _ _ _ => er_go rfl rfl,
  fun _ _ _ _ _ _ _ _ _ => er_go rfl rfl,
  fun _ _ _ _ _ _ _ _ _ => er_go rfl rfl,
  fun _ _ _ _ _ _ _ _ _ _ _ _ _ _ => er_callV rfl rfl rfl rfl,
  fun _ _ _ _ _ _ _ _ _ => er_go rfl rfl,
  fun _ _ _ _ _ _ _ _ _ => er_retZ rfl rfl⟩
/-- TwoStepOutputs.refusalOfBarrier(I)I -/
theorem r61 : (∀ (P : Nat × Nat) (l0 : Option Value) (x0 : Int32) (s : List Value) (h : am_H), am_E P 61 0 [l0, some (.int x0)] s h = am_E P 61 1 [l0, some (.int x0)] (.int x0 :: s) h) ∧
  (∀ (P : Nat × Nat) (l0 : Option Value) (l1 : Option Value) (x0 : Int32) (h : am_H), am_E P 61 1 [l0, l1] [.int x0] h = (am_E P 56 0 [some (.int x0)] [] h).bind (fun q => am_E P 61 4 [l0, l1] (q.1.toList ++ []) q.2)) ∧
  (∀ (P : Nat × Nat) (l0 : Option Value) (l1 : Option Value) (x0 : Int32) (s : List Value) (h : am_H), am_E P 61 4 [l0, l1] (.int x0 :: s) h = if x0 = 0 then am_E P 61 15 [l0, l1] s h else am_E P 61 7 [l0, l1] s h) ∧
  (∀ (P : Nat × Nat) (l0 : Option Value) (x0 : Int32) (s : List Value) (h : am_H), am_E P 61 7 [l0, some (.int x0)] s h = am_E P 61 8 [l0, some (.int x0)] (.int x0 :: s) h) ∧
  (∀ (P : Nat × Nat) (l1 : Option Value) (a0 : Nat) (s : List Value) (h : am_H), am_E P 61 8 [some (.ref a0), l1] s h = am_E P 61 9 [some (.ref a0), l1] (.ref a0 :: s) h) ∧
  (∀ (P : Nat × Nat) (l1 : Option Value) (s : List Value) (h : am_H), am_E P 61 8 [some .null, l1] s h = am_E P 61 9 [some .null, l1] (.null :: s) h) ∧
  (∀ (P : Nat × Nat) (l0 : Option Value) (l1 : Option Value) (a0 : Nat) (v0 : Value) (h : am_H), am_E P 61 9 [l0, l1] [.ref a0, v0] h = if am_cls h a0 = some 8 then (am_E P 57 0 [some (.ref a0)] [] h).bind (fun q => am_E P 61 12 [l0, l1] (q.1.toList ++ [v0]) q.2) else none) ∧
  (∀ (P : Nat × Nat) (l0 : Option Value) (l1 : Option Value) (x0 : Int32) (x1 : Int32) (s : List Value) (h : am_H), am_E P 61 12 [l0, l1] (.int x1 :: .int x0 :: s) h = if x1 < x0 then am_E P 61 18 [l0, l1] s h else am_E P 61 15 [l0, l1] s h) ∧
  (∀ (P : Nat × Nat) (l0 : Option Value) (l1 : Option Value) (s : List Value) (h : am_H), am_E P 61 15 [l0, l1] s h = am_E P 61 17 [l0, l1] (.int (-2) :: s) h) ∧
  (∀ (P : Nat × Nat) (l0 : Option Value) (l1 : Option Value) (x0 : Int32) (h : am_H), am_E P 61 17 [l0, l1] [.int x0] h = some (some (.int x0), h)) ∧
  (∀ (P : Nat × Nat) (l1 : Option Value) (a0 : Nat) (s : List Value) (h : am_H), am_E P 61 18 [some (.ref a0), l1] s h = am_E P 61 19 [some (.ref a0), l1] (.ref a0 :: s) h) ∧
  (∀ (P : Nat × Nat) (l1 : Option Value) (s : List Value) (h : am_H), am_E P 61 18 [some .null, l1] s h = am_E P 61 19 [some .null, l1] (.null :: s) h) ∧
  (∀ (P : Nat × Nat) (l0 : Option Value) (l1 : Option Value) (a0 : Nat) (s : List Value) (h : am_H), am_E P 61 19 [l0, l1] (.ref a0 :: s) h = (am_g1 h a0 8 6).bind (fun v => am_E P 61 22 [l0, l1] (v :: s) h)) ∧
  (∀ (P : Nat × Nat) (l0 : Option Value) (l1 : Option Value) (x0 : Int32) (s : List Value) (h : am_H), am_E P 61 22 [l0, l1] (.int x0 :: s) h = if x0 = 0 then am_E P 61 28 [l0, l1] s h else am_E P 61 25 [l0, l1] s h) ∧
  (∀ (P : Nat × Nat) (l0 : Option Value) (l1 : Option Value) (s : List Value) (h : am_H), am_E P 61 25 [l0, l1] s h = am_E P 61 27 [l0, l1] (.int (-5) :: s) h) ∧
  (∀ (P : Nat × Nat) (l0 : Option Value) (l1 : Option Value) (x0 : Int32) (h : am_H), am_E P 61 27 [l0, l1] [.int x0] h = some (some (.int x0), h)) ∧
  (∀ (P : Nat × Nat) (l1 : Option Value) (a0 : Nat) (s : List Value) (h : am_H), am_E P 61 28 [some (.ref a0), l1] s h = am_E P 61 29 [some (.ref a0), l1] (.ref a0 :: s) h) ∧
  (∀ (P : Nat × Nat) (l1 : Option Value) (s : List Value) (h : am_H), am_E P 61 28 [some .null, l1] s h = am_E P 61 29 [some .null, l1] (.null :: s) h) ∧
  (∀ (P : Nat × Nat) (l0 : Option Value) (l1 : Option Value) (a0 : Nat) (s : List Value) (h : am_H), am_E P 61 29 [l0, l1] (.ref a0 :: s) h = (am_g1 h a0 8 5).bind (fun v => am_E P 61 32 [l0, l1] (v :: s) h)) ∧
  (∀ (P : Nat × Nat) (l0 : Option Value) (l1 : Option Value) (x0 : Int32) (s : List Value) (h : am_H), am_E P 61 32 [l0, l1] (.int x0 :: s) h = if x0 = 0 then am_E P 61 38 [l0, l1] s h else am_E P 61 35 [l0, l1] s h) ∧
  (∀ (P : Nat × Nat) (l0 : Option Value) (l1 : Option Value) (s : List Value) (h : am_H), am_E P 61 35 [l0, l1] s h = am_E P 61 37 [l0, l1] (.int (-3) :: s) h) ∧
  (∀ (P : Nat × Nat) (l0 : Option Value) (l1 : Option Value) (x0 : Int32) (h : am_H), am_E P 61 37 [l0, l1] [.int x0] h = some (some (.int x0), h)) ∧
  (∀ (P : Nat × Nat) (l1 : Option Value) (a0 : Nat) (s : List Value) (h : am_H), am_E P 61 38 [some (.ref a0), l1] s h = am_E P 61 39 [some (.ref a0), l1] (.ref a0 :: s) h) ∧
  (∀ (P : Nat × Nat) (l1 : Option Value) (s : List Value) (h : am_H), am_E P 61 38 [some .null, l1] s h = am_E P 61 39 [some .null, l1] (.null :: s) h) ∧
  (∀ (P : Nat × Nat) (l0 : Option Value) (l1 : Option Value) (a0 : Nat) (s : List Value) (h : am_H), am_E P 61 39 [l0, l1] (.ref a0 :: s) h = (am_g1 h a0 8 3).bind (fun v => am_E P 61 42 [l0, l1] (v :: s) h)) ∧
  (∀ (P : Nat × Nat) (l0 : Option Value) (l1 : Option Value) (a0 : Nat) (s : List Value) (h : am_H), am_E P 61 42 [l0, l1] (.ref a0 :: s) h = (am_g1 h a0 1 2).bind (fun v => am_E P 61 45 [l0, l1] (v :: s) h)) ∧
  (∀ (P : Nat × Nat) (l0 : Option Value) (l1 : Option Value) (s : List Value) (h : am_H), am_E P 61 45 [l0, l1] s h = am_E P 61 48 [l0, l1] (.int 200 :: s) h) ∧
  (∀ (P : Nat × Nat) (l0 : Option Value) (l1 : Option Value) (x0 : Int32) (x1 : Int32) (s : List Value) (h : am_H), am_E P 61 48 [l0, l1] (.int x1 :: .int x0 :: s) h = if x1 ≤ x0 then am_E P 61 60 [l0, l1] s h else am_E P 61 51 [l0, l1] s h) ∧
  (∀ (P : Nat × Nat) (l1 : Option Value) (a0 : Nat) (s : List Value) (h : am_H), am_E P 61 51 [some (.ref a0), l1] s h = am_E P 61 52 [some (.ref a0), l1] (.ref a0 :: s) h) ∧
  (∀ (P : Nat × Nat) (l1 : Option Value) (s : List Value) (h : am_H), am_E P 61 51 [some .null, l1] s h = am_E P 61 52 [some .null, l1] (.null :: s) h) ∧
  (∀ (P : Nat × Nat) (l0 : Option Value) (l1 : Option Value) (a0 : Nat) (h : am_H), am_E P 61 52 [l0, l1] [.ref a0] h = if am_cls h a0 = some 8 then (am_E P 62 0 [some (.ref a0), none, none, none] [] h).bind (fun q => am_E P 61 55 [l0, l1] (q.1.toList ++ []) q.2) else none) ∧
  (∀ (P : Nat × Nat) (l0 : Option Value) (l1 : Option Value) (s : List Value) (h : am_H), am_E P 61 55 [l0, l1] s h = am_E P 61 57 [l0, l1] (.int 100 :: s) h) ∧
  (∀ (P : Nat × Nat) (l0 : Option Value) (l1 : Option Value) (x0 : Int32) (x1 : Int32) (s : List Value) (h : am_H), am_E P 61 57 [l0, l1] (.int x1 :: .int x0 :: s) h = if x0 ≤ x1 then am_E P 61 63 [l0, l1] s h else am_E P 61 60 [l0, l1] s h) ∧
  (∀ (P : Nat × Nat) (l0 : Option Value) (l1 : Option Value) (s : List Value) (h : am_H), am_E P 61 60 [l0, l1] s h = am_E P 61 62 [l0, l1] (.int (-4) :: s) h) ∧
  (∀ (P : Nat × Nat) (l0 : Option Value) (l1 : Option Value) (x0 : Int32) (h : am_H), am_E P 61 62 [l0, l1] [.int x0] h = some (some (.int x0), h)) ∧
  (∀ (P : Nat × Nat) (l0 : Option Value) (l1 : Option Value) (s : List Value) (h : am_H), am_E P 61 63 [l0, l1] s h = am_E P 61 64 [l0, l1] (.int 0 :: s) h) ∧
  (∀ (P : Nat × Nat) (l0 : Option Value) (l1 : Option Value) (x0 : Int32) (h : am_H), am_E P 61 64 [l0, l1] [.int x0] h = some (some (.int x0), h)) :=
  ⟨fun _ _ _ _ _ => er_go rfl rfl,
  fun _ _ _ _ _ => er_callS rfl rfl rfl,
  fun _ _ _ _ _ _ => er_if_eq rfl,
  fun _ _ _ _ _ => er_go rfl rfl,
  fun _ _ _ _ _ => er_go rfl rfl,
  fun _ _ _ _ => er_go rfl rfl,
  fun _ _ _ _ _ _ => er_callV rfl rfl rfl rfl,
  fun _ _ _ _ _ _ _ => er_ic_gt rfl,
  fun _ _ _ _ _ => er_go rfl rfl,
  fun _ _ _ _ _ => er_ret rfl rfl,
  fun _ _ _ _ _ => er_go rfl rfl,
  fun _ _ _ _ => er_go rfl rfl,
  fun _ _ _ _ _ _ => er_get1 rfl,
  fun _ _ _ _ _ _ => er_if_eq rfl,
  fun _ _ _ _ _ => er_go rfl rfl,
  fun _ _ _ _ _ => er_ret rfl rfl,
  fun _ _ _ _ _ => er_go rfl rfl,
  fun _ _ _ _ => er_go rfl rfl,
  fun _ _ _ _ _ _ => er_get1 rfl,
  fun _ _ _ _ _ _ => er_if_eq rfl,
  fun _ _ _ _ _ => er_go rfl rfl,
  fun _ _ _ _ _ => er_ret rfl rfl,
  fun _ _ _ _ _ => er_go rfl rfl,
  fun _ _ _ _ => er_go rfl rfl,
  fun _ _ _ _ _ _ => er_get1 rfl,
  fun _ _ _ _ _ _ => er_get1 rfl,
  fun _ _ _ _ _ => er_go rfl rfl,
  fun _ _ _ _ _ _ _ => er_ic_ge rfl,
  fun _ _ _ _ _ => er_go rfl rfl,
  fun _ _ _ _ => er_go rfl rfl,
  fun _ _ _ _ _ => er_callV rfl rfl rfl rfl,
  fun _ _ _ _ _ => er_go rfl rfl,
  fun _ _ _ _ _ _ _ => er_ic_le rfl,
  fun _ _ _ _ _ => er_go rfl rfl,
  fun _ _ _ _ _ => er_ret rfl rfl,
  fun _ _ _ _ _ => er_go rfl rfl,
  fun _ _ _ _ _ => er_ret rfl rfl⟩
/-- TwoStepOutputs.partsAfterBarrier()I -/
theorem r62 : (∀ (P : Nat × Nat) (l0 : Option Value) (l1 : Option Value) (l2 : Option Value) (l3 : Option Value) (s : List Value) (h : am_H), am_E P 62 0 [l0, l1, l2, l3] s h = am_E P 62 1 [l0, l1, l2, l3] (.int 0 :: s) h) ∧
  (∀ (P : Nat × Nat) (l0 : Option Value) (l1 : Option Value) (l2 : Option Value) (l3 : Option Value) (x0 : Int32) (s : List Value) (h : am_H), am_E P 62 1 [l0, l1, l2, l3] (.int x0 :: s) h = am_E P 62 2 [l0, some (.int x0), l2, l3] s h) ∧
  (∀ (P : Nat × Nat) (l0 : Option Value) (l1 : Option Value) (l2 : Option Value) (l3 : Option Value) (s : List Value) (h : am_H), am_E P 62 2 [l0, l1, l2, l3] s h = am_E P 62 3 [l0, l1, l2, l3] (.int 0 :: s) h) ∧
  (∀ (P : Nat × Nat) (l0 : Option Value) (l1 : Option Value) (l2 : Option Value) (l3 : Option Value) (x0 : Int32) (s : List Value) (h : am_H), am_E P 62 3 [l0, l1, l2, l3] (.int x0 :: s) h = am_E P 62 4 [l0, l1, some (.int x0), l3] s h) ∧
  (∀ (P : Nat × Nat) (l1 : Option Value) (l2 : Option Value) (l3 : Option Value) (a0 : Nat) (s : List Value) (h : am_H), am_E P 62 5 [some (.ref a0), l1, l2, l3] s h = am_E P 62 6 [some (.ref a0), l1, l2, l3] (.ref a0 :: s) h) ∧
  (∀ (P : Nat × Nat) (l1 : Option Value) (l2 : Option Value) (l3 : Option Value) (s : List Value) (h : am_H), am_E P 62 5 [some .null, l1, l2, l3] s h = am_E P 62 6 [some .null, l1, l2, l3] (.null :: s) h) ∧
  (∀ (P : Nat × Nat) (l0 : Option Value) (l1 : Option Value) (l2 : Option Value) (l3 : Option Value) (a0 : Nat) (s : List Value) (h : am_H), am_E P 62 6 [l0, l1, l2, l3] (.ref a0 :: s) h = (am_g1 h a0 8 0).bind (fun v => am_E P 62 9 [l0, l1, l2, l3] (v :: s) h)) ∧
  (∀ (P : Nat × Nat) (l0 : Option Value) (l1 : Option Value) (l2 : Option Value) (l3 : Option Value) (a0 : Nat) (v0 : Value) (h : am_H), am_E P 62 9 [l0, l1, l2, l3] [.ref a0, v0] h = if am_cls h a0 = some 0 then (am_E P 118 0 [some (.ref a0)] [] h).bind (fun q => am_E P 62 12 [l0, l1, l2, l3] (q.1.toList ++ [v0]) q.2) else none) ∧
  (∀ (P : Nat × Nat) (l0 : Option Value) (l1 : Option Value) (l2 : Option Value) (l3 : Option Value) (x0 : Int32) (x1 : Int32) (s : List Value) (h : am_H), am_E P 62 12 [l0, l1, l2, l3] (.int x1 :: .int x0 :: s) h = if x1 ≤ x0 then am_E P 62 56 [l0, l1, l2, l3] s h else am_E P 62 15 [l0, l1, l2, l3] s h) ∧
  (∀ (P : Nat × Nat) (l1 : Option Value) (l2 : Option Value) (l3 : Option Value) (a0 : Nat) (s : List Value) (h : am_H), am_E P 62 15 [some (.ref a0), l1, l2, l3] s h = am_E P 62 16 [some (.ref a0), l1, l2, l3] (.ref a0 :: s) h) ∧
  (∀ (P : Nat × Nat) (l1 : Option Value) (l2 : Option Value) (l3 : Option Value) (s : List Value) (h : am_H), am_E P 62 15 [some .null, l1, l2, l3] s h = am_E P 62 16 [some .null, l1, l2, l3] (.null :: s) h) ∧
  (∀ (P : Nat × Nat) (l0 : Option Value) (l1 : Option Value) (l2 : Option Value) (l3 : Option Value) (a0 : Nat) (s : List Value) (h : am_H), am_E P 62 16 [l0, l1, l2, l3] (.ref a0 :: s) h = (am_g1 h a0 8 0).bind (fun v => am_E P 62 19 [l0, l1, l2, l3] (v :: s) h)) ∧
  (∀ (P : Nat × Nat) (l0 : Option Value) (l1 : Option Value) (l3 : Option Value) (x0 : Int32) (s : List Value) (h : am_H), am_E P 62 19 [l0, l1, some (.int x0), l3] s h = am_E P 62 20 [l0, l1, some (.int x0), l3] (.int x0 :: s) h) ∧
  (∀ (P : Nat × Nat) (l0 : Option Value) (l1 : Option Value) (l2 : Option Value) (l3 : Option Value) (a0 : Nat) (x0 : Int32) (h : am_H), am_E P 62 20 [l0, l1, l2, l3] [.int x0, .ref a0] h = if am_cls h a0 = some 0 then (am_E P 120 0 [some (.ref a0), some (.int x0)] [] h).bind (fun q => am_E P 62 23 [l0, l1, l2, l3] (q.1.toList ++ []) q.2) else none) ∧
  (∀ (P : Nat × Nat) (l0 : Option Value) (l1 : Option Value) (l2 : Option Value) (l3 : Option Value) (a0 : Nat) (s : List Value) (h : am_H), am_E P 62 23 [l0, l1, l2, l3] (.ref a0 :: s) h = if am_cls h a0 = some 4 then am_E P 62 26 [l0, l1, l2, l3] (.ref a0 :: s) h else none) ∧
  (∀ (P : Nat × Nat) (l0 : Option Value) (l1 : Option Value) (l2 : Option Value) (l3 : Option Value) (s : List Value) (h : am_H), am_E P 62 23 [l0, l1, l2, l3] (.null :: s) h = am_E P 62 26 [l0, l1, l2, l3] (.null :: s) h) ∧
  (∀ (P : Nat × Nat) (l0 : Option Value) (l1 : Option Value) (l2 : Option Value) (l3 : Option Value) (a0 : Nat) (s : List Value) (h : am_H), am_E P 62 26 [l0, l1, l2, l3] (.ref a0 :: s) h = am_E P 62 27 [l0, l1, l2, some (.ref a0)] s h) ∧
  (∀ (P : Nat × Nat) (l0 : Option Value) (l1 : Option Value) (l2 : Option Value) (l3 : Option Value) (s : List Value) (h : am_H), am_E P 62 26 [l0, l1, l2, l3] (.null :: s) h = am_E P 62 27 [l0, l1, l2, some .null] s h) ∧
  (∀ (P : Nat × Nat) (l0 : Option Value) (l2 : Option Value) (l3 : Option Value) (x0 : Int32) (s : List Value) (h : am_H), am_E P 62 27 [l0, some (.int x0), l2, l3] s h = am_E P 62 28 [l0, some (.int x0), l2, l3] (.int x0 :: s) h) ∧
  (∀ (P : Nat × Nat) (l0 : Option Value) (l1 : Option Value) (l2 : Option Value) (a0 : Nat) (s : List Value) (h : am_H), am_E P 62 28 [l0, l1, l2, some (.ref a0)] s h = am_E P 62 29 [l0, l1, l2, some (.ref a0)] (.ref a0 :: s) h) ∧
  (∀ (P : Nat × Nat) (l0 : Option Value) (l1 : Option Value) (l2 : Option Value) (s : List Value) (h : am_H), am_E P 62 28 [l0, l1, l2, some .null] s h = am_E P 62 29 [l0, l1, l2, some .null] (.null :: s) h) ∧
  (∀ (P : Nat × Nat) (l0 : Option Value) (l1 : Option Value) (l2 : Option Value) (l3 : Option Value) (a0 : Nat) (s : List Value) (h : am_H), am_E P 62 29 [l0, l1, l2, l3] (.ref a0 :: s) h = (am_g1 h a0 4 5).bind (fun v => am_E P 62 32 [l0, l1, l2, l3] (v :: s) h)) ∧
  (∀ (P : Nat × Nat) (l0 : Option Value) (l1 : Option Value) (l2 : Option Value) (l3 : Option Value) (a0 : Nat) (v0 : Value) (h : am_H), am_E P 62 32 [l0, l1, l2, l3] [.ref a0, v0] h = if am_cls h a0 = some 0 then (am_E P 118 0 [some (.ref a0)] [] h).bind (fun q => am_E P 62 35 [l0, l1, l2, l3] (q.1.toList ++ [v0]) q.2) else none) ∧
  (∀ (P : Nat × Nat) (l0 : Option Value) (l1 : Option Value) (l2 : Option Value) (a0 : Nat) (s : List Value) (h : am_H), am_E P 62 35 [l0, l1, l2, some (.ref a0)] s h = am_E P 62 36 [l0, l1, l2, some (.ref a0)] (.ref a0 :: s) h) ∧
  (∀ (P : Nat × Nat) (l0 : Option Value) (l1 : Option Value) (l2 : Option Value) (s : List Value) (h : am_H), am_E P 62 35 [l0, l1, l2, some .null] s h = am_E P 62 36 [l0, l1, l2, some .null] (.null :: s) h) ∧
  (∀ (P : Nat × Nat) (l0 : Option Value) (l1 : Option Value) (l2 : Option Value) (l3 : Option Value) (a0 : Nat) (s : List Value) (h : am_H), am_E P 62 36 [l0, l1, l2, l3] (.ref a0 :: s) h = (am_g1 h a0 4 4).bind (fun v => am_E P 62 39 [l0, l1, l2, l3] (v :: s) h)) ∧
  (∀ (P : Nat × Nat) (l0 : Option Value) (l1 : Option Value) (l2 : Option Value) (l3 : Option Value) (x0 : Int32) (s : List Value) (h : am_H), am_E P 62 39 [l0, l1, l2, l3] (.int x0 :: s) h = if x0 ≤ 0 then am_E P 62 46 [l0, l1, l2, l3] s h else am_E P 62 42 [l0, l1, l2, l3] s h) ∧
  (∀ (P : Nat × Nat) (l0 : Option Value) (l1 : Option Value) (l2 : Option Value) (l3 : Option Value) (s : List Value) (h : am_H), am_E P 62 42 [l0, l1, l2, l3] s h = am_E P 62 43 [l0, l1, l2, l3] (.int 1 :: s) h) ∧
  (∀ (P : Nat × Nat) (l0 : Option Value) (l1 : Option Value) (l2 : Option Value) (l3 : Option Value) (s : List Value) (h : am_H), am_E P 62 43 [l0, l1, l2, l3] s h = am_E P 62 47 [l0, l1, l2, l3] s h) ∧
  (∀ (P : Nat × Nat) (l0 : Option Value) (l1 : Option Value) (l2 : Option Value) (l3 : Option Value) (s : List Value) (h : am_H), am_E P 62 46 [l0, l1, l2, l3] s h = am_E P 62 47 [l0, l1, l2, l3] (.int 0 :: s) h) ∧
  (∀ (P : Nat × Nat) (l0 : Option Value) (l1 : Option Value) (l2 : Option Value) (l3 : Option Value) (x0 : Int32) (x1 : Int32) (s : List Value) (h : am_H), am_E P 62 47 [l0, l1, l2, l3] (.int x1 :: .int x0 :: s) h = am_E P 62 48 [l0, l1, l2, l3] (.int (x0 + x1) :: s) h) ∧
  (∀ (P : Nat × Nat) (l0 : Option Value) (l1 : Option Value) (l2 : Option Value) (l3 : Option Value) (x0 : Int32) (x1 : Int32) (s : List Value) (h : am_H), am_E P 62 48 [l0, l1, l2, l3] (.int x1 :: .int x0 :: s) h = am_E P 62 49 [l0, l1, l2, l3] (.int (x0 + x1) :: s) h) ∧
  (∀ (P : Nat × Nat) (l0 : Option Value) (l1 : Option Value) (l2 : Option Value) (l3 : Option Value) (x0 : Int32) (s : List Value) (h : am_H), am_E P 62 49 [l0, l1, l2, l3] (.int x0 :: s) h = am_E P 62 50 [l0, some (.int x0), l2, l3] s h) ∧
  (∀ (P : Nat × Nat) (l0 : Option Value) (l1 : Option Value) (l3 : Option Value) (x0 : Int32) (s : List Value) (h : am_H), am_E P 62 50 [l0, l1, some (.int x0), l3] s h = am_E P 62 53 [l0, l1, some (.int (x0 + 1)), l3] s h) ∧
  (∀ (P : Nat × Nat) (l0 : Option Value) (l1 : Option Value) (l2 : Option Value) (l3 : Option Value) (s : List Value) (h : am_H), am_E P 62 53 [l0, l1, l2, l3] s h = am_E P 62 4 [l0, l1, l2, l3] s h) ∧
  (∀ (P : Nat × Nat) (l0 : Option Value) (l2 : Option Value) (l3 : Option Value) (x0 : Int32) (s : List Value) (h : am_H), am_E P 62 56 [l0, some (.int x0), l2, l3] s h = am_E P 62 57 [l0, some (.int x0), l2, l3] (.int x0 :: s) h) ∧
  (∀ (P : Nat × Nat) (l0 : Option Value) (l1 : Option Value) (l2 : Option Value) (l3 : Option Value) (x0 : Int32) (h : am_H), am_E P 62 57 [l0, l1, l2, l3] [.int x0] h = some (some (.int x0), h)) :=
  ⟨fun _ _ _ _ _ _ _ => er_go rfl rfl,
  fun _ _ _ _ _ _ _ _ => er_go rfl rfl,
  fun _ _ _ _ _ _ _ => er_go rfl rfl,
  fun _ _ _ _ _ _ _ _ => er_go rfl rfl,
  fun _ _ _ _ _ _ _ => er_go rfl rfl,
  fun _ _ _ _ _ _ => er_go rfl rfl,
  fun _ _ _ _ _ _ _ _ => er_get1 rfl,
  fun _ _ _ _ _ _ _ _ => er_callV rfl rfl rfl rfl,
  fun _ _ _ _ _ _ _ _ _ => er_ic_ge rfl,
  fun _ _ _ _ _ _ _ => er_go rfl rfl,
  fun _ _ _ _ _ _ => er_go rfl rfl,
  fun _ _ _ _ _ _ _ _ => er_get1 rfl,
  fun _ _ _ _ _ _ _ => er_go rfl rfl,
  fun _ _ _ _ _ _ _ _ => er_callV rfl rfl rfl rfl,
  fun _ _ _ _ _ _ _ _ => er_cast rfl,
  fun _ _ _ _ _ _ _ => er_go rfl rfl,
  fun _ _ _ _ _ _ _ _ => er_go rfl rfl,
  fun _ _ _ _ _ _ _ => er_go rfl rfl,
  fun _ _ _ _ _ _ _ => er_go rfl rfl,
  fun _ _ _ _ _ _ _ => er_go rfl rfl,
  fun _ _ _ _ _ _ => er_go rfl rfl,
  fun _ _ _ _ _ _ _ _ => er_get1 rfl,
  fun _ _ _ _ _ _ _ _ => er_callV rfl rfl rfl rfl,
  fun _ _ _ _ _ _ _ => er_go rfl rfl,
  fun _ _ _ _ _ _ => er_go rfl rfl,
  fun _ _ _ _ _ _ _ _ => er_get1 rfl,
  fun _ _ _ _ _ _ _ _ => er_if_le rfl,
  fun _ _ _ _ _ _ _ => er_go rfl rfl,
  fun _ _ _ _ _ _ _ => er_go rfl rfl,
  fun _ _ _ _ _ _ _ => er_go rfl rfl,
  fun _ _ _ _ _ _ _ _ _ => er_go rfl rfl,
  fun _ _ _ _ _ _ _ _ _ => er_go rfl rfl,
  fun _ _ _ _ _ _ _ _ => er_go rfl rfl,
  fun _ _ _ _ _ _ _ => er_go rfl rfl,
  fun _ _ _ _ _ _ _ => er_go rfl rfl,
  fun _ _ _ _ _ _ _ => er_go rfl rfl,
  fun _ _ _ _ _ _ _ => er_ret rfl rfl⟩
theorem hd62_4 : ∀ (P : Nat × Nat) (l0 : Option Value) (l1 : Option Value) (l3 : Option Value) (x0 : Int32) (s : List Value) (h : am_H), am_E P 62 4 [l0, l1, some (.int x0), l3] s h = am_E P 62 5 [l0, l1, some (.int x0), l3] (.int x0 :: s) h := fun _ _ _ _ _ _ _ => er_go rfl rfl
/-- TwoStepOutputs.makeBarrier(I)I -/
theorem r63 : (∀ (P : Nat × Nat) (l1 : Option Value) (l2 : Option Value) (l3 : Option Value) (l4 : Option Value) (l5 : Option Value) (a0 : Nat) (s : List Value) (h : am_H), am_E P 63 0 [some (.ref a0), l1, l2, l3, l4, l5] s h = am_E P 63 1 [some (.ref a0), l1, l2, l3, l4, l5] (.ref a0 :: s) h) ∧
  (∀ (P : Nat × Nat) (l1 : Option Value) (l2 : Option Value) (l3 : Option Value) (l4 : Option Value) (l5 : Option Value) (s : List Value) (h : am_H), am_E P 63 0 [some .null, l1, l2, l3, l4, l5] s h = am_E P 63 1 [some .null, l1, l2, l3, l4, l5] (.null :: s) h) ∧
  (∀ (P : Nat × Nat) (l0 : Option Value) (l1 : Option Value) (l2 : Option Value) (l3 : Option Value) (l4 : Option Value) (l5 : Option Value) (a0 : Nat) (s : List Value) (h : am_H), am_E P 63 1 [l0, l1, l2, l3, l4, l5] (.ref a0 :: s) h = (am_g1 h a0 8 3).bind (fun v => am_E P 63 4 [l0, l1, l2, l3, l4, l5] (v :: s) h)) ∧
  (∀ (P : Nat × Nat) (l0 : Option Value) (l1 : Option Value) (l2 : Option Value) (l3 : Option Value) (l4 : Option Value) (l5 : Option Value) (a0 : Nat) (s : List Value) (h : am_H), am_E P 63 4 [l0, l1, l2, l3, l4, l5] (.ref a0 :: s) h = am_E P 63 5 [l0, l1, l2, l3, l4, l5] (.ref a0 :: .ref a0 :: s) h) ∧
  (∀ (P : Nat × Nat) (l0 : Option Value) (l1 : Option Value) (l2 : Option Value) (l3 : Option Value) (l4 : Option Value) (l5 : Option Value) (a0 : Nat) (s : List Value) (h : am_H), am_E P 63 5 [l0, l1, l2, l3, l4, l5] (.ref a0 :: s) h = (am_g1 h a0 1 2).bind (fun v => am_E P 63 8 [l0, l1, l2, l3, l4, l5] (v :: s) h)) ∧
  (∀ (P : Nat × Nat) (l0 : Option Value) (l1 : Option Value) (l2 : Option Value) (l3 : Option Value) (l4 : Option Value) (l5 : Option Value) (s : List Value) (h : am_H), am_E P 63 8 [l0, l1, l2, l3, l4, l5] s h = am_E P 63 9 [l0, l1, l2, l3, l4, l5] (.int 1 :: s) h) ∧
  (∀ (P : Nat × Nat) (l0 : Option Value) (l1 : Option Value) (l2 : Option Value) (l3 : Option Value) (l4 : Option Value) (l5 : Option Value) (x0 : Int32) (x1 : Int32) (s : List Value) (h : am_H), am_E P 63 9 [l0, l1, l2, l3, l4, l5] (.int x1 :: .int x0 :: s) h = am_E P 63 10 [l0, l1, l2, l3, l4, l5] (.int (x0 + x1) :: s) h) ∧
  (∀ (P : Nat × Nat) (l0 : Option Value) (l1 : Option Value) (l2 : Option Value) (l3 : Option Value) (l4 : Option Value) (l5 : Option Value) (a0 : Nat) (x0 : Int32) (s : List Value) (h : am_H), am_E P 63 10 [l0, l1, l2, l3, l4, l5] (.int x0 :: .ref a0 :: s) h = (am_p1 h a0 1 2 (.int x0)).bind (fun h => am_E P 63 13 [l0, l1, l2, l3, l4, l5] s h)) ∧
  (∀ (P : Nat × Nat) (l0 : Option Value) (l1 : Option Value) (l2 : Option Value) (l3 : Option Value) (l4 : Option Value) (l5 : Option Value) (s : List Value) (h : am_H), am_E P 63 13 [l0, l1, l2, l3, l4, l5] s h = am_E P 63 14 [l0, l1, l2, l3, l4, l5] (.int 0 :: s) h) ∧
  (∀ (P : Nat × Nat) (l0 : Option Value) (l1 : Option Value) (l2 : Option Value) (l3 : Option Value) (l4 : Option Value) (l5 : Option Value) (x0 : Int32) (s : List Value) (h : am_H), am_E P 63 14 [l0, l1, l2, l3, l4, l5] (.int x0 :: s) h = am_E P 63 15 [l0, l1, some (.int x0), l3, l4, l5] s h) ∧
  (∀ (P : Nat × Nat) (l0 : Option Value) (l1 : Option Value) (l2 : Option Value) (l3 : Option Value) (l4 : Option Value) (l5 : Option Value) (s : List Value) (h : am_H), am_E P 63 15 [l0, l1, l2, l3, l4, l5] s h = am_E P 63 16 [l0, l1, l2, l3, l4, l5] (.int 0 :: s) h) ∧
  (∀ (P : Nat × Nat) (l0 : Option Value) (l1 : Option Value) (l2 : Option Value) (l3 : Option Value) (l4 : Option Value) (l5 : Option Value) (x0 : Int32) (s : List Value) (h : am_H), am_E P 63 16 [l0, l1, l2, l3, l4, l5] (.int x0 :: s) h = am_E P 63 17 [l0, l1, l2, some (.int x0), l4, l5] s h) ∧
  (∀ (P : Nat × Nat) (l1 : Option Value) (l2 : Option Value) (l3 : Option Value) (l4 : Option Value) (l5 : Option Value) (a0 : Nat) (s : List Value) (h : am_H), am_E P 63 18 [some (.ref a0), l1, l2, l3, l4, l5] s h = am_E P 63 19 [some (.ref a0), l1, l2, l3, l4, l5] (.ref a0 :: s) h) ∧
  (∀ (P : Nat × Nat) (l1 : Option Value) (l2 : Option Value) (l3 : Option Value) (l4 : Option Value) (l5 : Option Value) (s : List Value) (h : am_H), am_E P 63 18 [some .null, l1, l2, l3, l4, l5] s h = am_E P 63 19 [some .null, l1, l2, l3, l4, l5] (.null :: s) h) ∧
  (∀ (P : Nat × Nat) (l0 : Option Value) (l1 : Option Value) (l2 : Option Value) (l3 : Option Value) (l4 : Option Value) (l5 : Option Value) (a0 : Nat) (s : List Value) (h : am_H), am_E P 63 19 [l0, l1, l2, l3, l4, l5] (.ref a0 :: s) h = (am_g1 h a0 8 0).bind (fun v => am_E P 63 22 [l0, l1, l2, l3, l4, l5] (v :: s) h)) ∧
  (∀ (P : Nat × Nat) (l0 : Option Value) (l1 : Option Value) (l2 : Option Value) (l3 : Option Value) (l4 : Option Value) (l5 : Option Value) (a0 : Nat) (v0 : Value) (h : am_H), am_E P 63 22 [l0, l1, l2, l3, l4, l5] [.ref a0, v0] h = if am_cls h a0 = some 0 then (am_E P 118 0 [some (.ref a0)] [] h).bind (fun q => am_E P 63 25 [l0, l1, l2, l3, l4, l5] (q.1.toList ++ [v0]) q.2) else none) ∧
  (∀ (P : Nat × Nat) (l0 : Option Value) (l1 : Option Value) (l2 : Option Value) (l3 : Option Value) (l4 : Option Value) (l5 : Option Value) (x0 : Int32) (x1 : Int32) (s : List Value) (h : am_H), am_E P 63 25 [l0, l1, l2, l3, l4, l5] (.int x1 :: .int x0 :: s) h = if x1 ≤ x0 then am_E P 63 77 [l0, l1, l2, l3, l4, l5] s h else am_E P 63 28 [l0, l1, l2, l3, l4, l5] s h) ∧
  (∀ (P : Nat × Nat) (l1 : Option Value) (l2 : Option Value) (l3 : Option Value) (l4 : Option Value) (l5 : Option Value) (a0 : Nat) (s : List Value) (h : am_H), am_E P 63 28 [some (.ref a0), l1, l2, l3, l4, l5] s h = am_E P 63 29 [some (.ref a0), l1, l2, l3, l4, l5] (.ref a0 :: s) h) ∧
  (∀ (P : Nat × Nat) (l1 : Option Value) (l2 : Option Value) (l3 : Option Value) (l4 : Option Value) (l5 : Option Value) (s : List Value) (h : am_H), am_E P 63 28 [some .null, l1, l2, l3, l4, l5] s h = am_E P 63 29 [some .null, l1, l2, l3, l4, l5] (.null :: s) h) ∧
  (∀ (P : Nat × Nat) (l0 : Option Value) (l1 : Option Value) (l2 : Option Value) (l3 : Option Value) (l4 : Option Value) (l5 : Option Value) (a0 : Nat) (s : List Value) (h : am_H), am_E P 63 29 [l0, l1, l2, l3, l4, l5] (.ref a0 :: s) h = (am_g1 h a0 8 0).bind (fun v => am_E P 63 32 [l0, l1, l2, l3, l4, l5] (v :: s) h)) ∧
  (∀ (P : Nat × Nat) (l0 : Option Value) (l1 : Option Value) (l2 : Option Value) (l4 : Option Value) (l5 : Option Value) (x0 : Int32) (s : List Value) (h : am_H), am_E P 63 32 [l0, l1, l2, some (.int x0), l4, l5] s h = am_E P 63 33 [l0, l1, l2, some (.int x0), l4, l5] (.int x0 :: s) h) ∧
  (∀ (P : Nat × Nat) (l0 : Option Value) (l1 : Option Value) (l2 : Option Value) (l3 : Option Value) (l4 : Option Value) (l5 : Option Value) (a0 : Nat) (x0 : Int32) (h : am_H), am_E P 63 33 [l0, l1, l2, l3, l4, l5] [.int x0, .ref a0] h = if am_cls h a0 = some 0 then (am_E P 120 0 [some (.ref a0), some (.int x0)] [] h).bind (fun q => am_E P 63 36 [l0, l1, l2, l3, l4, l5] (q.1.toList ++ []) q.2) else none) ∧
  (∀ (P : Nat × Nat) (l0 : Option Value) (l1 : Option Value) (l2 : Option Value) (l3 : Option Value) (l4 : Option Value) (l5 : Option Value) (a0 : Nat) (s : List Value) (h : am_H), am_E P 63 36 [l0, l1, l2, l3, l4, l5] (.ref a0 :: s) h = if am_cls h a0 = some 4 then am_E P 63 39 [l0, l1, l2, l3, l4, l5] (.ref a0 :: s) h else none) ∧
  (∀ (P : Nat × Nat) (l0 : Option Value) (l1 : Option Value) (l2 : Option Value) (l3 : Option Value) (l4 : Option Value) (l5 : Option Value) (s : List Value) (h : am_H), am_E P 63 36 [l0, l1, l2, l3, l4, l5] (.null :: s) h = am_E P 63 39 [l0, l1, l2, l3, l4, l5] (.null :: s) h) ∧
  (∀ (P : Nat × Nat) (l0 : Option Value) (l1 : Option Value) (l2 : Option Value) (l3 : Option Value) (l4 : Option Value) (l5 : Option Value) (a0 : Nat) (s : List Value) (h : am_H), am_E P 63 39 [l0, l1, l2, l3, l4, l5] (.ref a0 :: s) h = am_E P 63 41 [l0, l1, l2, l3, some (.ref a0), l5] s h) ∧
  (∀ (P : Nat × Nat) (l0 : Option Value) (l1 : Option Value) (l2 : Option Value) (l3 : Option Value) (l4 : Option Value) (l5 : Option Value) (s : List Value) (h : am_H), am_E P 63 39 [l0, l1, l2, l3, l4, l5] (.null :: s) h = am_E P 63 41 [l0, l1, l2, l3, some .null, l5] s h) ∧
  (∀ (P : Nat × Nat) (l0 : Option Value) (l1 : Option Value) (l2 : Option Value) (l3 : Option Value) (l5 : Option Value) (a0 : Nat) (s : List Value) (h : am_H), am_E P 63 41 [l0, l1, l2, l3, some (.ref a0), l5] s h = am_E P 63 43 [l0, l1, l2, l3, some (.ref a0), l5] (.ref a0 :: s) h) ∧
  (∀ (P : Nat × Nat) (l0 : Option Value) (l1 : Option Value) (l2 : Option Value) (l3 : Option Value) (l5 : Option Value) (s : List Value) (h : am_H), am_E P 63 41 [l0, l1, l2, l3, some .null, l5] s h = am_E P 63 43 [l0, l1, l2, l3, some .null, l5] (.null :: s) h) ∧
  (∀ (P : Nat × Nat) (l0 : Option Value) (l1 : Option Value) (l2 : Option Value) (l3 : Option Value) (l4 : Option Value) (l5 : Option Value) (a0 : Nat) (s : List Value) (h : am_H), am_E P 63 43 [l0, l1, l2, l3, l4, l5] (.ref a0 :: s) h = (am_g1 h a0 4 4).bind (fun v => am_E P 63 46 [l0, l1, l2, l3, l4, l5] (v :: s) h)) ∧
  (∀ (P : Nat × Nat) (l0 : Option Value) (l1 : Option Value) (l2 : Option Value) (l3 : Option Value) (l4 : Option Value) (l5 : Option Value) (x0 : Int32) (s : List Value) (h : am_H), am_E P 63 46 [l0, l1, l2, l3, l4, l5] (.int x0 :: s) h = am_E P 63 48 [l0, l1, l2, l3, l4, some (.int x0)] s h) ∧
  (∀ (P : Nat × Nat) (l0 : Option Value) (l1 : Option Value) (l2 : Option Value) (l3 : Option Value) (l4 : Option Value) (x0 : Int32) (s : List Value) (h : am_H), am_E P 63 48 [l0, l1, l2, l3, l4, some (.int x0)] s h = am_E P 63 50 [l0, l1, l2, l3, l4, some (.int x0)] (.int x0 :: s) h) ∧
  (∀ (P : Nat × Nat) (l0 : Option Value) (l1 : Option Value) (l2 : Option Value) (l3 : Option Value) (l4 : Option Value) (l5 : Option Value) (x0 : Int32) (s : List Value) (h : am_H), am_E P 63 50 [l0, l1, l2, l3, l4, l5] (.int x0 :: s) h = if x0 ≤ 0 then am_E P 63 66 [l0, l1, l2, l3, l4, l5] s h else am_E P 63 53 [l0, l1, l2, l3, l4, l5] s h) ∧
  (∀ (P : Nat × Nat) (l1 : Option Value) (l2 : Option Value) (l3 : Option Value) (l4 : Option Value) (l5 : Option Value) (a0 : Nat) (s : List Value) (h : am_H), am_E P 63 53 [some (.ref a0), l1, l2, l3, l4, l5] s h = am_E P 63 54 [some (.ref a0), l1, l2, l3, l4, l5] (.ref a0 :: s) h) ∧
  (∀ (P : Nat × Nat) (l1 : Option Value) (l2 : Option Value) (l3 : Option Value) (l4 : Option Value) (l5 : Option Value) (s : List Value) (h : am_H), am_E P 63 53 [some .null, l1, l2, l3, l4, l5] s h = am_E P 63 54 [some .null, l1, l2, l3, l4, l5] (.null :: s) h) ∧
  (∀ (P : Nat × Nat) (l0 : Option Value) (l1 : Option Value) (l2 : Option Value) (l3 : Option Value) (l5 : Option Value) (a0 : Nat) (s : List Value) (h : am_H), am_E P 63 54 [l0, l1, l2, l3, some (.ref a0), l5] s h = am_E P 63 56 [l0, l1, l2, l3, some (.ref a0), l5] (.ref a0 :: s) h) ∧
  (∀ (P : Nat × Nat) (l0 : Option Value) (l1 : Option Value) (l2 : Option Value) (l3 : Option Value) (l5 : Option Value) (s : List Value) (h : am_H), am_E P 63 54 [l0, l1, l2, l3, some .null, l5] s h = am_E P 63 56 [l0, l1, l2, l3, some .null, l5] (.null :: s) h) ∧
  (∀ (P : Nat × Nat) (l0 : Option Value) (l2 : Option Value) (l3 : Option Value) (l4 : Option Value) (l5 : Option Value) (x0 : Int32) (s : List Value) (h : am_H), am_E P 63 56 [l0, some (.int x0), l2, l3, l4, l5] s h = am_E P 63 57 [l0, some (.int x0), l2, l3, l4, l5] (.int x0 :: s) h) ∧
  (∀ (P : Nat × Nat) (l0 : Option Value) (l1 : Option Value) (l2 : Option Value) (l3 : Option Value) (l4 : Option Value) (l5 : Option Value) (a0 : Nat) (a1 : Nat) (x1 : Int32) (h : am_H), am_E P 63 57 [l0, l1, l2, l3, l4, l5] [.int x1, .ref a1, .ref a0] h = if am_cls h a0 = some 8 then (am_E P 64 0 [some (.ref a0), some (.ref a1), some (.int x1), none, none] [] h).bind (fun q => am_E P 63 60 [l0, l1, l2, l3, l4, l5] (q.1.toList ++ []) q.2) else none) ∧
  (∀ (P : Nat × Nat) (l0 : Option Value) (l1 : Option Value) (l2 : Option Value) (l3 : Option Value) (l4 : Option Value) (l5 : Option Value) (x0 : Int32) (s : List Value) (h : am_H), am_E P 63 60 [l0, l1, l2, l3, l4, l5] (.int x0 :: s) h = if x0 = 0 then am_E P 63 63 [l0, l1, l2, l3, l4, l5] s h else am_E P 63 66 [l0, l1, l2, l3, l4, l5] s h) ∧
  (∀ (P : Nat × Nat) (l0 : Option Value) (l1 : Option Value) (l2 : Option Value) (l3 : Option Value) (l4 : Option Value) (l5 : Option Value) (s : List Value) (h : am_H), am_E P 63 63 [l0, l1, l2, l3, l4, l5] s h = am_E P 63 65 [l0, l1, l2, l3, l4, l5] (.int (-5) :: s) h) ∧
  (∀ (P : Nat × Nat) (l0 : Option Value) (l1 : Option Value) (l2 : Option Value) (l3 : Option Value) (l4 : Option Value) (l5 : Option Value) (x0 : Int32) (h : am_H), am_E P 63 65 [l0, l1, l2, l3, l4, l5] [.int x0] h = some (some (.int x0), h)) ∧
  (∀ (P : Nat × Nat) (l0 : Option Value) (l1 : Option Value) (l3 : Option Value) (l4 : Option Value) (l5 : Option Value) (x0 : Int32) (s : List Value) (h : am_H), am_E P 63 66 [l0, l1, some (.int x0), l3, l4, l5] s h = am_E P 63 67 [l0, l1, some (.int x0), l3, l4, l5] (.int x0 :: s) h) ∧
  (∀ (P : Nat × Nat) (l0 : Option Value) (l1 : Option Value) (l2 : Option Value) (l3 : Option Value) (l4 : Option Value) (x0 : Int32) (s : List Value) (h : am_H), am_E P 63 67 [l0, l1, l2, l3, l4, some (.int x0)] s h = am_E P 63 69 [l0, l1, l2, l3, l4, some (.int x0)] (.int x0 :: s) h) ∧
  (∀ (P : Nat × Nat) (l0 : Option Value) (l1 : Option Value) (l2 : Option Value) (l3 : Option Value) (l4 : Option Value) (l5 : Option Value) (x0 : Int32) (x1 : Int32) (s : List Value) (h : am_H), am_E P 63 69 [l0, l1, l2, l3, l4, l5] (.int x1 :: .int x0 :: s) h = am_E P 63 70 [l0, l1, l2, l3, l4, l5] (.int (x0 + x1) :: s) h) ∧
  (∀ (P : Nat × Nat) (l0 : Option Value) (l1 : Option Value) (l2 : Option Value) (l3 : Option Value) (l4 : Option Value) (l5 : Option Value) (x0 : Int32) (s : List Value) (h : am_H), am_E P 63 70 [l0, l1, l2, l3, l4, l5] (.int x0 :: s) h = am_E P 63 71 [l0, l1, some (.int x0), l3, l4, l5] s h) ∧
  (∀ (P : Nat × Nat) (l0 : Option Value) (l1 : Option Value) (l2 : Option Value) (l4 : Option Value) (l5 : Option Value) (x0 : Int32) (s : List Value) (h : am_H), am_E P 63 71 [l0, l1, l2, some (.int x0), l4, l5] s h = am_E P 63 74 [l0, l1, l2, some (.int (x0 + 1)), l4, l5] s h) ∧
  (∀ (P : Nat × Nat) (l0 : Option Value) (l1 : Option Value) (l2 : Option Value) (l3 : Option Value) (l4 : Option Value) (l5 : Option Value) (s : List Value) (h : am_H), am_E P 63 74 [l0, l1, l2, l3, l4, l5] s h = am_E P 63 17 [l0, l1, l2, l3, l4, l5] s h) ∧
  (∀ (P : Nat × Nat) (l1 : Option Value) (l2 : Option Value) (l3 : Option Value) (l4 : Option Value) (l5 : Option Value) (a0 : Nat) (s : List Value) (h : am_H), am_E P 63 77 [some (.ref a0), l1, l2, l3, l4, l5] s h = am_E P 63 78 [some (.ref a0), l1, l2, l3, l4, l5] (.ref a0 :: s) h) ∧
  (∀ (P : Nat × Nat) (l1 : Option Value) (l2 : Option Value) (l3 : Option Value) (l4 : Option Value) (l5 : Option Value) (s : List Value) (h : am_H), am_E P 63 77 [some .null, l1, l2, l3, l4, l5] s h = am_E P 63 78 [some .null, l1, l2, l3, l4, l5] (.null :: s) h) ∧
  (∀ (P : Nat × Nat) (l0 : Option Value) (l1 : Option Value) (l2 : Option Value) (l3 : Option Value) (l4 : Option Value) (l5 : Option Value) (a0 : Nat) (s : List Value) (h : am_H), am_E P 63 78 [l0, l1, l2, l3, l4, l5] (.ref a0 :: s) h = (am_g1 h a0 8 3).bind (fun v => am_E P 63 81 [l0, l1, l2, l3, l4, l5] (v :: s) h)) ∧
  (∀ (P : Nat × Nat) (l0 : Option Value) (l2 : Option Value) (l3 : Option Value) (l4 : Option Value) (l5 : Option Value) (x0 : Int32) (s : List Value) (h : am_H), am_E P 63 81 [l0, some (.int x0), l2, l3, l4, l5] s h = am_E P 63 82 [l0, some (.int x0), l2, l3, l4, l5] (.int x0 :: s) h) ∧
  (∀ (P : Nat × Nat) (l0 : Option Value) (l1 : Option Value) (l2 : Option Value) (l3 : Option Value) (l4 : Option Value) (l5 : Option Value) (a0 : Nat) (x0 : Int32) (h : am_H), am_E P 63 82 [l0, l1, l2, l3, l4, l5] [.int x0, .ref a0] h = if am_cls h a0 = some 1 then (am_E P 1 0 [some (.ref a0), some (.int x0)] [] h).bind (fun q => am_E P 63 85 [l0, l1, l2, l3, l4, l5] (q.1.toList ++ []) q.2) else none) ∧
  (∀ (P : Nat × Nat) (l0 : Option Value) (l1 : Option Value) (l3 : Option Value) (l4 : Option Value) (l5 : Option Value) (x0 : Int32) (s : List Value) (h : am_H), am_E P 63 85 [l0, l1, some (.int x0), l3, l4, l5] s h = am_E P 63 86 [l0, l1, some (.int x0), l3, l4, l5] (.int x0 :: s) h) ∧
  (∀ (P : Nat × Nat) (l0 : Option Value) (l1 : Option Value) (l2 : Option Value) (l3 : Option Value) (l4 : Option Value) (l5 : Option Value) (x0 : Int32) (h : am_H), am_E P 63 86 [l0, l1, l2, l3, l4, l5] [.int x0] h = some (some (.int x0), h)) :=
  ⟨fun _ _ _ _ _ _ _ _ _ => er_go rfl rfl,
  fun _ _ _ _ _ _ _ _ => er_go rfl rfl,
  fun _ _ _ _ _ _ _ _ _ _ => er_get1 rfl,
  fun _ _ _ _ _ _ _ _ _ _ => er_go rfl rfl,
  fun _ _ _ _ _ _ _ _ _ _ => er_get1 rfl,
  fun _ _ _ _ _ _ _ _ _ => er_go rfl rfl,
  fun _ _ _ _ _ _ _ _ _ _ _ => er_go rfl rfl,
  fun _ _ _ _ _ _ _ _ _ _ _ => er_put1 rfl rfl,
  fun _ _ _ _ _ _ _ _ _ => er_go rfl rfl,
  fun _ _ _ _ _ _ _ _ _ _ => er_go rfl rfl,
  fun _ _ _ _ _ _ _ _ _ => er_go rfl rfl,
  fun _ _ _ _ _ _ _ _ _ _ => er_go rfl rfl,
  fun _ _ _ _ _ _ _ _ _ => er_go rfl rfl,
  fun _ _ _ _ _ _ _ _ => er_go rfl rfl,
  fun _ _ _ _ _ _ _ _ _ _ => er_get1 rfl,
  fun _ _ _ _ _ _ _ _ _ _ => er_callV rfl rfl rfl rfl,
  fun _ _ _ _ _ _ _ _ _ _ _ => er_ic_ge rfl,
  fun _ _ _ _ _ _ _ _ _ => er_go rfl rfl,
  fun _ _ _ _ _ _ _ _ => er_go rfl rfl,
  fun _ _ _ _ _ _ _ _ _ _ => er_get1 rfl,
  fun _ _ _ _ _ _ _ _ _ => er_go rfl rfl,
  fun _ _ _ _ _ _ _ _ _ _ => er_callV rfl rfl rfl rfl,
  fun _ _ _ _ _ _ _ _ _ _ => er_cast rfl,
  fun _ _ _ _ _ _ _ _ _ => er_go rfl rfl,
  fun _ _ _ _ _ _ _ _ _ _ => er_go rfl rfl,
  fun _ _ _ _ _ _ _ _ _ => er_go rfl rfl,
  fun _ _ _ _ _ _ _ _ _ => er_go rfl rfl,
  fun _ _ _ _ _ _ _ _ => er_go rfl rfl,
  fun _ _ _ _ _ _ _ _ _ _ => er_get1 rfl,
  fun _ _ _ _ _ _ _ _ _ _ => er_go rfl rfl,
  fun _ _ _ _ _ _ _ _ _ => er_go rfl rfl,
  fun _ _ _ _ _ _ _ _ _ _ => er_if_le rfl,
  fun _ _ _ _ _ _ _ _ _ => er_go rfl rfl,
  fun _ _ _ _ _ _ _ _ => er_go rfl rfl,
  fun _ _ _ _ _ _ _ _ _ => er_go rfl rfl,
  fun _ _ _ _ _ _ _ _ => er_go rfl rfl,
  fun _ _ _ _ _ _ _ _ _ => er_go rfl rfl,
  fun _ _ _ _ _ _ _ _ _ _ _ => er_callV rfl rfl rfl rfl,
  fun _ _ _ _ _ _ _ _ _ _ => er_if_ne rfl,
  fun _ _ _ _ _ _ _ _ _ => er_go rfl rfl,
  fun _ _ _ _ _ _ _ _ _ => er_ret rfl rfl,
  fun _ _ _ _ _ _ _ _ _ => er_go rfl rfl,
  fun _ _ _ _ _ _ _ _ _ => er_go rfl rfl,
  fun _ _ _ _ _ _ _ _ _ _ _ => er_go rfl rfl,
  fun _ _ _ _ _ _ _ _ _ _ => er_go rfl rfl,
  fun _ _ _ _ _ _ _ _ _ => er_go rfl rfl,
  fun _ _ _ _ _ _ _ _ _ => er_go rfl rfl,
  fun _ _ _ _ _ _ _ _ _ => er_go rfl rfl,
  fun _ _ _ _ _ _ _ _ => er_go rfl rfl,
  fun _ _ _ _ _ _ _ _ _ _ => er_get1 rfl,
  fun _ _ _ _ _ _ _ _ _ => er_go rfl rfl,
  fun _ _ _ _ _ _ _ _ _ _ => er_callV rfl rfl rfl rfl,
  fun _ _ _ _ _ _ _ _ _ => er_go rfl rfl,
  fun _ _ _ _ _ _ _ _ _ => er_ret rfl rfl⟩
theorem hd63_17 : ∀ (P : Nat × Nat) (l0 : Option Value) (l1 : Option Value) (l2 : Option Value) (l4 : Option Value) (l5 : Option Value) (x0 : Int32) (s : List Value) (h : am_H), am_E P 63 17 [l0, l1, l2, some (.int x0), l4, l5] s h = am_E P 63 18 [l0, l1, l2, some (.int x0), l4, l5] (.int x0 :: s) h := fun _ _ _ _ _ _ _ _ _ => er_go rfl rfl
/-- TwoStepOutputs.closeOpenPart(LTwoStepOutputs$Output;I)Z -/
theorem r64 : (∀ (P : Nat × Nat) (l0 : Option Value) (l1 : Option Value) (l2 : Option Value) (l3 : Option Value) (l4 : Option Value) (s : List Value) (h : am_H), am_E P 64 0 [l0, l1, l2, l3, l4] s h = am_E P 64 3 [l0, l1, l2, l3, l4] (.ref h.1 :: s) (ah_new h 7 (ac_O 5 [.int 0, .int 0, .int 0, .int 0, .int 0, .int 0, .int 0]))) ∧
  (∀ (P : Nat × Nat) (l0 : Option Value) (l1 : Option Value) (l2 : Option Value) (l3 : Option Value) (l4 : Option Value) (a0 : Nat) (s : List Value) (h : am_H), am_E P 64 3 [l0, l1, l2, l3, l4] (.ref a0 :: s) h = am_E P 64 4 [l0, l1, l2, l3, l4] (.ref a0 :: .ref a0 :: s) h) ∧
  (∀ (P : Nat × Nat) (l0 : Option Value) (l2 : Option Value) (l3 : Option Value) (l4 : Option Value) (a0 : Nat) (s : List Value) (h : am_H), am_E P 64 4 [l0, some (.ref a0), l2, l3, l4] s h = am_E P 64 5 [l0, some (.ref a0), l2, l3, l4] (.ref a0 :: s) h) ∧
  (∀ (P : Nat × Nat) (l0 : Option Value) (l2 : Option Value) (l3 : Option Value) (l4 : Option Value) (s : List Value) (h : am_H), am_E P 64 4 [l0, some .null, l2, l3, l4] s h = am_E P 64 5 [l0, some .null, l2, l3, l4] (.null :: s) h) ∧
  (∀ (P : Nat × Nat) (l0 : Option Value) (l1 : Option Value) (l2 : Option Value) (l3 : Option Value) (l4 : Option Value) (a0 : Nat) (s : List Value) (h : am_H), am_E P 64 5 [l0, l1, l2, l3, l4] (.ref a0 :: s) h = (am_g1 h a0 4 5).bind (fun v => am_E P 64 8 [l0, l1, l2, l3, l4] (v :: s) h)) ∧
  (∀ (P : Nat × Nat) (l0 : Option Value) (l1 : Option Value) (l2 : Option Value) (l3 : Option Value) (l4 : Option Value) (a0 : Nat) (v0 : Value) (v1 : Value) (h : am_H), am_E P 64 8 [l0, l1, l2, l3, l4] [.ref a0, v0, v1] h = if am_cls h a0 = some 0 then (am_E P 118 0 [some (.ref a0)] [] h).bind (fun q => am_E P 64 11 [l0, l1, l2, l3, l4] (q.1.toList ++ [v0, v1]) q.2) else none) ∧
  (∀ (P : Nat × Nat) (l1 : Option Value) (l2 : Option Value) (l3 : Option Value) (l4 : Option Value) (a0 : Nat) (s : List Value) (h : am_H), am_E P 64 11 [some (.ref a0), l1, l2, l3, l4] s h = am_E P 64 12 [some (.ref a0), l1, l2, l3, l4] (.ref a0 :: s) h) ∧
  (∀ (P : Nat × Nat) (l1 : Option Value) (l2 : Option Value) (l3 : Option Value) (l4 : Option Value) (s : List Value) (h : am_H), am_E P 64 11 [some .null, l1, l2, l3, l4] s h = am_E P 64 12 [some .null, l1, l2, l3, l4] (.null :: s) h) ∧
  (∀ (P : Nat × Nat) (l0 : Option Value) (l1 : Option Value) (l2 : Option Value) (l3 : Option Value) (l4 : Option Value) (a0 : Nat) (s : List Value) (h : am_H), am_E P 64 12 [l0, l1, l2, l3, l4] (.ref a0 :: s) h = (am_g1 h a0 8 2).bind (fun v => am_E P 64 15 [l0, l1, l2, l3, l4] (v :: s) h)) ∧
  (∀ (P : Nat × Nat) (l0 : Option Value) (l1 : Option Value) (l2 : Option Value) (l3 : Option Value) (l4 : Option Value) (a0 : Nat) (v0 : Value) (v1 : Value) (v2 : Value) (h : am_H), am_E P 64 15 [l0, l1, l2, l3, l4] [.ref a0, v0, v1, v2] h = if am_cls h a0 = some 2 then (am_E P 24 0 [some (.ref a0)] [] h).bind (fun q => am_E P 64 18 [l0, l1, l2, l3, l4] (q.1.toList ++ [v0, v1, v2]) q.2) else none) ∧
  (∀ (P : Nat × Nat) (l0 : Option Value) (l1 : Option Value) (l2 : Option Value) (l3 : Option Value) (l4 : Option Value) (a0 : Nat) (x0 : Int32) (x1 : Int32) (v0 : Value) (h : am_H), am_E P 64 18 [l0, l1, l2, l3, l4] [.int x1, .int x0, .ref a0, v0] h = (am_E P 20 0 [some (.ref a0), some (.int x0), some (.int x1)] [] h).bind (fun q => am_E P 64 21 [l0, l1, l2, l3, l4] (q.1.toList ++ [v0]) q.2)) ∧
  (∀ (P : Nat × Nat) (l0 : Option Value) (l1 : Option Value) (l2 : Option Value) (l3 : Option Value) (l4 : Option Value) (a0 : Nat) (s : List Value) (h : am_H), am_E P 64 21 [l0, l1, l2, l3, l4] (.ref a0 :: s) h = am_E P 64 22 [l0, l1, l2, some (.ref a0), l4] s h) ∧
  (∀ (P : Nat × Nat) (l0 : Option Value) (l1 : Option Value) (l2 : Option Value) (l3 : Option Value) (l4 : Option Value) (s : List Value) (h : am_H), am_E P 64 21 [l0, l1, l2, l3, l4] (.null :: s) h = am_E P 64 22 [l0, l1, l2, some .null, l4] s h) ∧
  (∀ (P : Nat × Nat) (l0 : Option Value) (l1 : Option Value) (l2 : Option Value) (l3 : Option Value) (l4 : Option Value) (s : List Value) (h : am_H), am_E P 64 22 [l0, l1, l2, l3, l4] s h = am_E P 64 23 [l0, l1, l2, l3, l4] (.int 0 :: s) h) ∧
  (∀ (P : Nat × Nat) (l0 : Option Value) (l1 : Option Value) (l2 : Option Value) (l3 : Option Value) (l4 : Option Value) (x0 : Int32) (s : List Value) (h : am_H), am_E P 64 23 [l0, l1, l2, l3, l4] (.int x0 :: s) h = am_E P 64 25 [l0, l1, l2, l3, some (.int x0)] s h) ∧
  (∀ (P : Nat × Nat) (l0 : Option Value) (l2 : Option Value) (l3 : Option Value) (l4 : Option Value) (a0 : Nat) (s : List Value) (h : am_H), am_E P 64 27 [l0, some (.ref a0), l2, l3, l4] s h = am_E P 64 28 [l0, some (.ref a0), l2, l3, l4] (.ref a0 :: s) h) ∧
  (∀ (P : Nat × Nat) (l0 : Option Value) (l2 : Option Value) (l3 : Option Value) (l4 : Option Value) (s : List Value) (h : am_H), am_E P 64 27 [l0, some .null, l2, l3, l4] s h = am_E P 64 28 [l0, some .null, l2, l3, l4] (.null :: s) h) ∧
  (∀ (P : Nat × Nat) (l0 : Option Value) (l1 : Option Value) (l2 : Option Value) (l3 : Option Value) (l4 : Option Value) (a0 : Nat) (s : List Value) (h : am_H), am_E P 64 28 [l0, l1, l2, l3, l4] (.ref a0 :: s) h = (am_g1 h a0 4 4).bind (fun v => am_E P 64 31 [l0, l1, l2, l3, l4] (v :: s) h)) ∧
  (∀ (P : Nat × Nat) (l0 : Option Value) (l1 : Option Value) (l2 : Option Value) (l3 : Option Value) (l4 : Option Value) (x0 : Int32) (x1 : Int32) (s : List Value) (h : am_H), am_E P 64 31 [l0, l1, l2, l3, l4] (.int x1 :: .int x0 :: s) h = if x1 ≤ x0 then am_E P 64 103 [l0, l1, l2, l3, l4] s h else am_E P 64 34 [l0, l1, l2, l3, l4] s h) ∧
  (∀ (P : Nat × Nat) (l0 : Option Value) (l1 : Option Value) (l2 : Option Value) (l3 : Option Value) (x0 : Int32) (s : List Value) (h : am_H), am_E P 64 34 [l0, l1, l2, l3, some (.int x0)] s h = am_E P 64 36 [l0, l1, l2, l3, some (.int x0)] (.int x0 :: s) h) ∧
  (∀ (P : Nat × Nat) (l0 : Option Value) (l1 : Option Value) (l2 : Option Value) (l3 : Option Value) (l4 : Option Value) (s : List Value) (h : am_H), am_E P 64 36 [l0, l1, l2, l3, l4] s h = am_E P 64 38 [l0, l1, l2, l3, l4] (.int 20 :: s) h) ∧
  (∀ (P : Nat × Nat) (l0 : Option Value) (l1 : Option Value) (l2 : Option Value) (l3 : Option Value) (l4 : Option Value) (x0 : Int32) (x1 : Int32) (s : List Value) (h : am_H), am_E P 64 38 [l0, l1, l2, l3, l4] (.int x1 :: .int x0 :: s) h = if x1 ≤ x0 then am_E P 64 103 [l0, l1, l2, l3, l4] s h else am_E P 64 41 [l0, l1, l2, l3, l4] s h) ∧
  (∀ (P : Nat × Nat) (l1 : Option Value) (l2 : Option Value) (l3 : Option Value) (l4 : Option Value) (a0 : Nat) (s : List Value) (h : am_H), am_E P 64 41 [some (.ref a0), l1, l2, l3, l4] s h = am_E P 64 42 [some (.ref a0), l1, l2, l3, l4] (.ref a0 :: s) h) ∧
  (∀ (P : Nat × Nat) (l1 : Option Value) (l2 : Option Value) (l3 : Option Value) (l4 : Option Value) (s : List Value) (h : am_H), am_E P 64 41 [some .null, l1, l2, l3, l4] s h = am_E P 64 42 [some .null, l1, l2, l3, l4] (.null :: s) h) ∧
  (∀ (P : Nat × Nat) (l0 : Option Value) (l1 : Option Value) (l2 : Option Value) (l3 : Option Value) (l4 : Option Value) (s : List Value) (h : am_H), am_E P 64 42 [l0, l1, l2, l3, l4] s h = am_E P 64 43 [l0, l1, l2, l3, l4] (.int 0 :: s) h) ∧
  (∀ (P : Nat × Nat) (l0 : Option Value) (l2 : Option Value) (l3 : Option Value) (l4 : Option Value) (a0 : Nat) (s : List Value) (h : am_H), am_E P 64 43 [l0, some (.ref a0), l2, l3, l4] s h = am_E P 64 44 [l0, some (.ref a0), l2, l3, l4] (.ref a0 :: s) h) ∧
  (∀ (P : Nat × Nat) (l0 : Option Value) (l2 : Option Value) (l3 : Option Value) (l4 : Option Value) (s : List Value) (h : am_H), am_E P 64 43 [l0, some .null, l2, l3, l4] s h = am_E P 64 44 [l0, some .null, l2, l3, l4] (.null :: s) h) ∧
  (∀ (P : Nat × Nat) (l0 : Option Value) (l1 : Option Value) (l2 : Option Value) (l3 : Option Value) (l4 : Option Value) (a0 : Nat) (s : List Value) (h : am_H), am_E P 64 44 [l0, l1, l2, l3, l4] (.ref a0 :: s) h = (am_g1 h a0 4 0).bind (fun v => am_E P 64 47 [l0, l1, l2, l3, l4] (v :: s) h)) ∧
  (∀ (P : Nat × Nat) (l0 : Option Value) (l1 : Option Value) (l2 : Option Value) (l4 : Option Value) (a0 : Nat) (s : List Value) (h : am_H), am_E P 64 47 [l0, l1, l2, some (.ref a0), l4] s h = am_E P 64 48 [l0, l1, l2, some (.ref a0), l4] (.ref a0 :: s) h) ∧
  (∀ (P : Nat × Nat) (l0 : Option Value) (l1 : Option Value) (l2 : Option Value) (l4 : Option Value) (s : List Value) (h : am_H), am_E P 64 47 [l0, l1, l2, some .null, l4] s h = am_E P 64 48 [l0, l1, l2, some .null, l4] (.null :: s) h) ∧
  (∀ (P : Nat × Nat) (l0 : Option Value) (l1 : Option Value) (l2 : Option Value) (l3 : Option Value) (l4 : Option Value) (a0 : Nat) (s : List Value) (h : am_H), am_E P 64 48 [l0, l1, l2, l3, l4] (.ref a0 :: s) h = (am_g1 h a0 5 0).bind (fun v => am_E P 64 51 [l0, l1, l2, l3, l4] (v :: s) h)) ∧
  (∀ (P : Nat × Nat) (l0 : Option Value) (l2 : Option Value) (l3 : Option Value) (l4 : Option Value) (a0 : Nat) (s : List Value) (h : am_H), am_E P 64 51 [l0, some (.ref a0), l2, l3, l4] s h = am_E P 64 52 [l0, some (.ref a0), l2, l3, l4] (.ref a0 :: s) h) ∧
  (∀ (P : Nat × Nat) (l0 : Option Value) (l2 : Option Value) (l3 : Option Value) (l4 : Option Value) (s : List Value) (h : am_H), am_E P 64 51 [l0, some .null, l2, l3, l4] s h = am_E P 64 52 [l0, some .null, l2, l3, l4] (.null :: s) h) ∧
  (∀ (P : Nat × Nat) (l0 : Option Value) (l1 : Option Value) (l2 : Option Value) (l3 : Option Value) (l4 : Option Value) (a0 : Nat) (s : List Value) (h : am_H), am_E P 64 52 [l0, l1, l2, l3, l4] (.ref a0 :: s) h = (am_g1 h a0 4 2).bind (fun v => am_E P 64 55 [l0, l1, l2, l3, l4] (v :: s) h)) ∧
  (∀ (P : Nat × Nat) (l0 : Option Value) (l1 : Option Value) (l2 : Option Value) (l3 : Option Value) (x0 : Int32) (s : List Value) (h : am_H), am_E P 64 55 [l0, l1, l2, l3, some (.int x0)] s h = am_E P 64 57 [l0, l1, l2, l3, some (.int x0)] (.int x0 :: s) h) ∧
  (∀ (P : Nat × Nat) (l0 : Option Value) (l1 : Option Value) (l2 : Option Value) (l3 : Option Value) (l4 : Option Value) (x0 : Int32) (a0 : Nat) (s : List Value) (h : am_H), am_E P 64 57 [l0, l1, l2, l3, l4] (.int x0 :: .ref a0 :: s) h = (am_iald h a0 x0).bind (fun v => am_E P 64 58 [l0, l1, l2, l3, l4] (.int v :: s) h)) ∧
  (∀ (P : Nat × Nat) (l0 : Option Value) (l2 : Option Value) (l3 : Option Value) (l4 : Option Value) (a0 : Nat) (s : List Value) (h : am_H), am_E P 64 58 [l0, some (.ref a0), l2, l3, l4] s h = am_E P 64 59 [l0, some (.ref a0), l2, l3, l4] (.ref a0 :: s) h) ∧
  (∀ (P : Nat × Nat) (l0 : Option Value) (l2 : Option Value) (l3 : Option Value) (l4 : Option Value) (s : List Value) (h : am_H), am_E P 64 58 [l0, some .null, l2, l3, l4] s h = am_E P 64 59 [l0, some .null, l2, l3, l4] (.null :: s) h) ∧
  (∀ (P : Nat × Nat) (l0 : Option Value) (l1 : Option Value) (l2 : Option Value) (l3 : Option Value) (l4 : Option Value) (a0 : Nat) (s : List Value) (h : am_H), am_E P 64 59 [l0, l1, l2, l3, l4] (.ref a0 :: s) h = (am_g1 h a0 4 3).bind (fun v => am_E P 64 62 [l0, l1, l2, l3, l4] (v :: s) h)) ∧
  (∀ (P : Nat × Nat) (l0 : Option Value) (l1 : Option Value) (l2 : Option Value) (l3 : Option Value) (x0 : Int32) (s : List Value) (h : am_H), am_E P 64 62 [l0, l1, l2, l3, some (.int x0)] s h = am_E P 64 64 [l0, l1, l2, l3, some (.int x0)] (.int x0 :: s) h) ∧
  (∀ (P : Nat × Nat) (l0 : Option Value) (l1 : Option Value) (l2 : Option Value) (l3 : Option Value) (l4 : Option Value) (x0 : Int32) (a0 : Nat) (s : List Value) (h : am_H), am_E P 64 64 [l0, l1, l2, l3, l4] (.int x0 :: .ref a0 :: s) h = (am_iald h a0 x0).bind (fun v => am_E P 64 65 [l0, l1, l2, l3, l4] (.int v :: s) h)) ∧
  (∀ (P : Nat × Nat) (l0 : Option Value) (l1 : Option Value) (l2 : Option Value) (l3 : Option Value) (l4 : Option Value) (a0 : Nat) (x0 : Int32) (x1 : Int32) (x2 : Int32) (x3 : Int32) (x4 : Int32) (h : am_H), am_E P 64 65 [l0, l1, l2, l3, l4] [.int x4, .int x3, .int x2, .int x1, .int x0, .ref a0] h = if am_cls h a0 = some 8 then (am_E P 60 0 [some (.ref a0), some (.int x0), some (.int x1), some (.int x2), some (.int x3), some (.int x4)] [] h).bind (fun q => am_E P 64 68 [l0, l1, l2, l3, l4] (q.1.toList ++ []) q.2) else none) ∧
  (∀ (P : Nat × Nat) (l0 : Option Value) (l1 : Option Value) (l2 : Option Value) (l3 : Option Value) (l4 : Option Value) (x0 : Int32) (s : List Value) (h : am_H), am_E P 64 68 [l0, l1, l2, l3, l4] (.int x0 :: s) h = if x0 = 0 then am_E P 64 71 [l0, l1, l2, l3, l4] s h else am_E P 64 73 [l0, l1, l2, l3, l4] s h) ∧
  (∀ (P : Nat × Nat) (l0 : Option Value) (l1 : Option Value) (l2 : Option Value) (l3 : Option Value) (l4 : Option Value) (s : List Value) (h : am_H), am_E P 64 71 [l0, l1, l2, l3, l4] s h = am_E P 64 72 [l0, l1, l2, l3, l4] (.int 0 :: s) h) ∧
  (∀ (P : Nat × Nat) (l0 : Option Value) (l1 : Option Value) (l2 : Option Value) (l3 : Option Value) (l4 : Option Value) (x0 : Int32) (h : am_H), am_E P 64 72 [l0, l1, l2, l3, l4] [.int x0] h = if x0 = 0 ∨ x0 = 1 then some (some (.int x0), h) else none) ∧
  (∀ (P : Nat × Nat) (l0 : Option Value) (l1 : Option Value) (l2 : Option Value) (l3 : Option Value) (x0 : Int32) (s : List Value) (h : am_H), am_E P 64 73 [l0, l1, l2, l3, some (.int x0)] s h = am_E P 64 75 [l0, l1, l2, l3, some (.int x0)] (.int x0 :: s) h) ∧
  (∀ (P : Nat × Nat) (l0 : Option Value) (l1 : Option Value) (l2 : Option Value) (l3 : Option Value) (l4 : Option Value) (x0 : Int32) (s : List Value) (h : am_H), am_E P 64 75 [l0, l1, l2, l3, l4] (.int x0 :: s) h = if x0 = 0 then am_E P 64 78 [l0, l1, l2, l3, l4] s h else am_E P 64 87 [l0, l1, l2, l3, l4] s h) ∧
  (∀ (P : Nat × Nat) (l0 : Option Value) (l2 : Option Value) (l3 : Option Value) (l4 : Option Value) (a0 : Nat) (s : List Value) (h : am_H), am_E P 64 78 [l0, some (.ref a0), l2, l3, l4] s h = am_E P 64 79 [l0, some (.ref a0), l2, l3, l4] (.ref a0 :: s) h) ∧
  (∀ (P : Nat × Nat) (l0 : Option Value) (l2 : Option Value) (l3 : Option Value) (l4 : Option Value) (s : List Value) (h : am_H), am_E P 64 78 [l0, some .null, l2, l3, l4] s h = am_E P 64 79 [l0, some .null, l2, l3, l4] (.null :: s) h) ∧
  (∀ (P : Nat × Nat) (l0 : Option Value) (l1 : Option Value) (l2 : Option Value) (l3 : Option Value) (l4 : Option Value) (a0 : Nat) (s : List Value) (h : am_H), am_E P 64 79 [l0, l1, l2, l3, l4] (.ref a0 :: s) h = (am_g1 h a0 4 5).bind (fun v => am_E P 64 82 [l0, l1, l2, l3, l4] (v :: s) h)) ∧
  (∀ (P : Nat × Nat) (l0 : Option Value) (l1 : Option Value) (l2 : Option Value) (l4 : Option Value) (a0 : Nat) (s : List Value) (h : am_H), am_E P 64 82 [l0, l1, l2, some (.ref a0), l4] s h = am_E P 64 83 [l0, l1, l2, some (.ref a0), l4] (.ref a0 :: s) h) ∧
  (∀ (P : Nat × Nat) (l0 : Option Value) (l1 : Option Value) (l2 : Option Value) (l4 : Option Value) (s : List Value) (h : am_H), am_E P 64 82 [l0, l1, l2, some .null, l4] s h = am_E P 64 83 [l0, l1, l2, some .null, l4] (.null :: s) h) ∧
  (∀ (P : Nat × Nat) (l0 : Option Value) (l1 : Option Value) (l2 : Option Value) (l3 : Option Value) (l4 : Option Value) (a0 : Nat) (a1 : Nat) (h : am_H), am_E P 64 83 [l0, l1, l2, l3, l4] [.ref a1, .ref a0] h = if am_cls h a0 = some 0 then (am_E P 122 0 [some (.ref a0), some (.ref a1)] [] h).bind (fun q => am_E P 64 86 [l0, l1, l2, l3, l4] (q.1.toList ++ []) q.2) else none) ∧
  (∀ (P : Nat × Nat) (l0 : Option Value) (l1 : Option Value) (l2 : Option Value) (l3 : Option Value) (l4 : Option Value) (x0 : Int32) (s : List Value) (h : am_H), am_E P 64 86 [l0, l1, l2, l3, l4] (.int x0 :: s) h = am_E P 64 87 [l0, l1, l2, l3, l4] s h) ∧
  (∀ (P : Nat × Nat) (l0 : Option Value) (l1 : Option Value) (l2 : Option Value) (l4 : Option Value) (a0 : Nat) (s : List Value) (h : am_H), am_E P 64 87 [l0, l1, l2, some (.ref a0), l4] s h = am_E P 64 88 [l0, l1, l2, some (.ref a0), l4] (.ref a0 :: s) h) ∧
  (∀ (P : Nat × Nat) (l0 : Option Value) (l1 : Option Value) (l2 : Option Value) (l4 : Option Value) (s : List Value) (h : am_H), am_E P 64 87 [l0, l1, l2, some .null, l4] s h = am_E P 64 88 [l0, l1, l2, some .null, l4] (.null :: s) h) ∧
  (∀ (P : Nat × Nat) (l0 : Option Value) (l1 : Option Value) (l2 : Option Value) (l3 : Option Value) (l4 : Option Value) (a0 : Nat) (s : List Value) (h : am_H), am_E P 64 88 [l0, l1, l2, l3, l4] (.ref a0 :: s) h = am_E P 64 89 [l0, l1, l2, l3, l4] (.ref a0 :: .ref a0 :: s) h) ∧
  (∀ (P : Nat × Nat) (l0 : Option Value) (l1 : Option Value) (l2 : Option Value) (l3 : Option Value) (l4 : Option Value) (a0 : Nat) (s : List Value) (h : am_H), am_E P 64 89 [l0, l1, l2, l3, l4] (.ref a0 :: s) h = (am_g1 h a0 5 2).bind (fun v => am_E P 64 92 [l0, l1, l2, l3, l4] (v :: s) h)) ∧
  (∀ (P : Nat × Nat) (l0 : Option Value) (l1 : Option Value) (l2 : Option Value) (l3 : Option Value) (l4 : Option Value) (s : List Value) (h : am_H), am_E P 64 92 [l0, l1, l2, l3, l4] s h = am_E P 64 93 [l0, l1, l2, l3, l4] (.int 1 :: s) h) ∧
  (∀ (P : Nat × Nat) (l0 : Option Value) (l1 : Option Value) (l2 : Option Value) (l3 : Option Value) (l4 : Option Value) (x0 : Int32) (x1 : Int32) (s : List Value) (h : am_H), am_E P 64 93 [l0, l1, l2, l3, l4] (.int x1 :: .int x0 :: s) h = am_E P 64 94 [l0, l1, l2, l3, l4] (.int (x0 + x1) :: s) h) ∧
  (∀ (P : Nat × Nat) (l0 : Option Value) (l1 : Option Value) (l2 : Option Value) (l3 : Option Value) (l4 : Option Value) (a0 : Nat) (x0 : Int32) (s : List Value) (h : am_H), am_E P 64 94 [l0, l1, l2, l3, l4] (.int x0 :: .ref a0 :: s) h = (am_p1 h a0 5 2 (.int x0)).bind (fun h => am_E P 64 97 [l0, l1, l2, l3, l4] s h)) ∧
  (∀ (P : Nat × Nat) (l0 : Option Value) (l1 : Option Value) (l2 : Option Value) (l3 : Option Value) (x0 : Int32) (s : List Value) (h : am_H), am_E P 64 97 [l0, l1, l2, l3, some (.int x0)] s h = am_E P 64 100 [l0, l1, l2, l3, some (.int (x0 + 1))] s h) ∧
  (∀ (P : Nat × Nat) (l0 : Option Value) (l1 : Option Value) (l2 : Option Value) (l3 : Option Value) (l4 : Option Value) (s : List Value) (h : am_H), am_E P 64 100 [l0, l1, l2, l3, l4] s h = am_E P 64 25 [l0, l1, l2, l3, l4] s h) ∧
  (∀ (P : Nat × Nat) (l1 : Option Value) (l2 : Option Value) (l3 : Option Value) (l4 : Option Value) (a0 : Nat) (s : List Value) (h : am_H), am_E P 64 103 [some (.ref a0), l1, l2, l3, l4] s h = am_E P 64 104 [some (.ref a0), l1, l2, l3, l4] (.ref a0 :: s) h) ∧
  (∀ (P : Nat × Nat) (l1 : Option Value) (l2 : Option Value) (l3 : Option Value) (l4 : Option Value) (s : List Value) (h : am_H), am_E P 64 103 [some .null, l1, l2, l3, l4] s h = am_E P 64 104 [some .null, l1, l2, l3, l4] (.null :: s) h) ∧
  (∀ (P : Nat × Nat) (l0 : Option Value) (l1 : Option Value) (l2 : Option Value) (l3 : Option Value) (l4 : Option Value) (s : List Value) (h : am_H), am_E P 64 104 [l0, l1, l2, l3, l4] s h = am_E P 64 105 [l0, l1, l2, l3, l4] (.int 1 :: s) h) ∧
  (∀ (P : Nat × Nat) (l0 : Option Value) (l2 : Option Value) (l3 : Option Value) (l4 : Option Value) (a0 : Nat) (s : List Value) (h : am_H), am_E P 64 105 [l0, some (.ref a0), l2, l3, l4] s h = am_E P 64 106 [l0, some (.ref a0), l2, l3, l4] (.ref a0 :: s) h) ∧
  (∀ (P : Nat × Nat) (l0 : Option Value) (l2 : Option Value) (l3 : Option Value) (l4 : Option Value) (s : List Value) (h : am_H), am_E P 64 105 [l0, some .null, l2, l3, l4] s h = am_E P 64 106 [l0, some .null, l2, l3, l4] (.null :: s) h) ∧
  (∀ (P : Nat × Nat) (l0 : Option Value) (l1 : Option Value) (l2 : Option Value) (l3 : Option Value) (l4 : Option Value) (a0 : Nat) (s : List Value) (h : am_H), am_E P 64 106 [l0, l1, l2, l3, l4] (.ref a0 :: s) h = (am_g1 h a0 4 0).bind (fun v => am_E P 64 109 [l0, l1, l2, l3, l4] (v :: s) h)) ∧
  (∀ (P : Nat × Nat) (l0 : Option Value) (l1 : Option Value) (l2 : Option Value) (l4 : Option Value) (a0 : Nat) (s : List Value) (h : am_H), am_E P 64 109 [l0, l1, l2, some (.ref a0), l4] s h = am_E P 64 110 [l0, l1, l2, some (.ref a0), l4] (.ref a0 :: s) h) ∧
  (∀ (P : Nat × Nat) (l0 : Option Value) (l1 : Option Value) (l2 : Option Value) (l4 : Option Value) (s : List Value) (h : am_H), am_E P 64 109 [l0, l1, l2, some .null, l4] s h = am_E P 64 110 [l0, l1, l2, some .null, l4] (.null :: s) h) ∧
  (∀ (P : Nat × Nat) (l0 : Option Value) (l1 : Option Value) (l2 : Option Value) (l3 : Option Value) (l4 : Option Value) (a0 : Nat) (s : List Value) (h : am_H), am_E P 64 110 [l0, l1, l2, l3, l4] (.ref a0 :: s) h = (am_g1 h a0 5 0).bind (fun v => am_E P 64 113 [l0, l1, l2, l3, l4] (v :: s) h)) ∧
  (∀ (P : Nat × Nat) (l0 : Option Value) (l1 : Option Value) (l3 : Option Value) (l4 : Option Value) (x0 : Int32) (s : List Value) (h : am_H), am_E P 64 113 [l0, l1, some (.int x0), l3, l4] s h = am_E P 64 114 [l0, l1, some (.int x0), l3, l4] (.int x0 :: s) h) ∧
  (∀ (P : Nat × Nat) (l0 : Option Value) (l1 : Option Value) (l2 : Option Value) (l3 : Option Value) (l4 : Option Value) (s : List Value) (h : am_H), am_E P 64 114 [l0, l1, l2, l3, l4] s h = am_E P 64 116 [l0, l1, l2, l3, l4] (.int (-6) :: s) h) ∧
  (∀ (P : Nat × Nat) (l0 : Option Value) (l1 : Option Value) (l2 : Option Value) (l3 : Option Value) (l4 : Option Value) (a0 : Nat) (x0 : Int32) (x1 : Int32) (x2 : Int32) (x3 : Int32) (x4 : Int32) (h : am_H), am_E P 64 116 [l0, l1, l2, l3, l4] [.int x4, .int x3, .int x2, .int x1, .int x0, .ref a0] h = if am_cls h a0 = some 8 then (am_E P 60 0 [some (.ref a0), some (.int x0), some (.int x1), some (.int x2), some (.int x3), some (.int x4)] [] h).bind (fun q => am_E P 64 119 [l0, l1, l2, l3, l4] (q.1.toList ++ []) q.2) else none) ∧
  (∀ (P : Nat × Nat) (l0 : Option Value) (l1 : Option Value) (l2 : Option Value) (l3 : Option Value) (l4 : Option Value) (x0 : Int32) (s : List Value) (h : am_H), am_E P 64 119 [l0, l1, l2, l3, l4] (.int x0 :: s) h = if x0 = 0 then am_E P 64 122 [l0, l1, l2, l3, l4] s h else am_E P 64 124 [l0, l1, l2, l3, l4] s h) ∧
  (∀ (P : Nat × Nat) (l0 : Option Value) (l1 : Option Value) (l2 : Option Value) (l3 : Option Value) (l4 : Option Value) (s : List Value) (h : am_H), am_E P 64 122 [l0, l1, l2, l3, l4] s h = am_E P 64 123 [l0, l1, l2, l3, l4] (.int 0 :: s) h) ∧
  (∀ (P : Nat × Nat) (l0 : Option Value) (l1 : Option Value) (l2 : Option Value) (l3 : Option Value) (l4 : Option Value) (x0 : Int32) (h : am_H), am_E P 64 123 [l0, l1, l2, l3, l4] [.int x0] h = if x0 = 0 ∨ x0 = 1 then some (some (.int x0), h) else none) ∧
  (∀ (P : Nat × Nat) (l0 : Option Value) (l1 : Option Value) (l2 : Option Value) (l4 : Option Value) (a0 : Nat) (s : List Value) (h : am_H), am_E P 64 124 [l0, l1, l2, some (.ref a0), l4] s h = am_E P 64 125 [l0, l1, l2, some (.ref a0), l4] (.ref a0 :: s) h) ∧
  (∀ (P : Nat × Nat) (l0 : Option Value) (l1 : Option Value) (l2 : Option Value) (l4 : Option Value) (s : List Value) (h : am_H), am_E P 64 124 [l0, l1, l2, some .null, l4] s h = am_E P 64 125 [l0, l1, l2, some .null, l4] (.null :: s) h) ∧
  (∀ (P : Nat × Nat) (l0 : Option Value) (l1 : Option Value) (l3 : Option Value) (l4 : Option Value) (x0 : Int32) (s : List Value) (h : am_H), am_E P 64 125 [l0, l1, some (.int x0), l3, l4] s h = am_E P 64 126 [l0, l1, some (.int x0), l3, l4] (.int x0 :: s) h) ∧
  (∀ (P : Nat × Nat) (l0 : Option Value) (l1 : Option Value) (l2 : Option Value) (l3 : Option Value) (l4 : Option Value) (a0 : Nat) (x0 : Int32) (s : List Value) (h : am_H), am_E P 64 126 [l0, l1, l2, l3, l4] (.int x0 :: .ref a0 :: s) h = (am_p1 h a0 5 3 (.int x0)).bind (fun h => am_E P 64 129 [l0, l1, l2, l3, l4] s h)) ∧
  (∀ (P : Nat × Nat) (l0 : Option Value) (l1 : Option Value) (l2 : Option Value) (l4 : Option Value) (a0 : Nat) (s : List Value) (h : am_H), am_E P 64 129 [l0, l1, l2, some (.ref a0), l4] s h = am_E P 64 130 [l0, l1, l2, some (.ref a0), l4] (.ref a0 :: s) h) ∧
  (∀ (P : Nat × Nat) (l0 : Option Value) (l1 : Option Value) (l2 : Option Value) (l4 : Option Value) (s : List Value) (h : am_H), am_E P 64 129 [l0, l1, l2, some .null, l4] s h = am_E P 64 130 [l0, l1, l2, some .null, l4] (.null :: s) h) ∧
  (∀ (P : Nat × Nat) (l0 : Option Value) (l1 : Option Value) (l2 : Option Value) (l3 : Option Value) (l4 : Option Value) (s : List Value) (h : am_H), am_E P 64 130 [l0, l1, l2, l3, l4] s h = am_E P 64 131 [l0, l1, l2, l3, l4] (.int 1 :: s) h) ∧
  (∀ (P : Nat × Nat) (l0 : Option Value) (l1 : Option Value) (l2 : Option Value) (l3 : Option Value) (l4 : Option Value) (a0 : Nat) (x0 : Int32) (s : List Value) (h : am_H), am_E P 64 131 [l0, l1, l2, l3, l4] (.int x0 :: .ref a0 :: s) h = (am_p1 h a0 5 4 (.int x0)).bind (fun h => am_E P 64 134 [l0, l1, l2, l3, l4] s h)) ∧
  (∀ (P : Nat × Nat) (l0 : Option Value) (l2 : Option Value) (l3 : Option Value) (l4 : Option Value) (a0 : Nat) (s : List Value) (h : am_H), am_E P 64 134 [l0, some (.ref a0), l2, l3, l4] s h = am_E P 64 135 [l0, some (.ref a0), l2, l3, l4] (.ref a0 :: s) h) ∧
  (∀ (P : Nat × Nat) (l0 : Option Value) (l2 : Option Value) (l3 : Option Value) (l4 : Option Value) (s : List Value) (h : am_H), am_E P 64 134 [l0, some .null, l2, l3, l4] s h = am_E P 64 135 [l0, some .null, l2, l3, l4] (.null :: s) h) ∧
  (∀ (P : Nat × Nat) (l0 : Option Value) (l1 : Option Value) (l2 : Option Value) (l3 : Option Value) (l4 : Option Value) (s : List Value) (h : am_H), am_E P 64 135 [l0, l1, l2, l3, l4] s h = am_E P 64 136 [l0, l1, l2, l3, l4] (.int 0 :: s) h) ∧
  (∀ (P : Nat × Nat) (l0 : Option Value) (l1 : Option Value) (l2 : Option Value) (l3 : Option Value) (l4 : Option Value) (a0 : Nat) (x0 : Int32) (s : List Value) (h : am_H), am_E P 64 136 [l0, l1, l2, l3, l4] (.int x0 :: .ref a0 :: s) h = (am_p1 h a0 4 4 (.int x0)).bind (fun h => am_E P 64 139 [l0, l1, l2, l3, l4] s h)) ∧
  (∀ (P : Nat × Nat) (l0 : Option Value) (l1 : Option Value) (l2 : Option Value) (l3 : Option Value) (l4 : Option Value) (s : List Value) (h : am_H), am_E P 64 139 [l0, l1, l2, l3, l4] s h = am_E P 64 140 [l0, l1, l2, l3, l4] (.int 1 :: s) h) ∧
  (∀ (P : Nat × Nat) (l0 : Option Value) (l1 : Option Value) (l2 : Option Value) (l3 : Option Value) (l4 : Option Value) (x0 : Int32) (h : am_H), am_E P 64 140 [l0, l1, l2, l3, l4] [.int x0] h = if x0 = 0 ∨ x0 = 1 then some (some (.int x0), h) else none) :=
  ⟨fun _ _ _ _ _ _ _ _ => er_go rfl rfl,
  fun _ _ _ _ _ _ _ _ _ => er_go rfl rfl,
  fun _ _ _ _ _ _ _ _ => er_go rfl rfl,
  fun _ _ _ _ _ _ _ => er_go rfl rfl,
  fun _ _ _ _ _ _ _ _ _ => er_get1 rfl,
  fun _ _ _ _ _ _ _ _ _ _ => er_callV rfl rfl rfl rfl,
  fun _ _ _ _ _ _ _ _ => er_go rfl rfl,
  fun _ _ _ _ _ _ _ => er_go rfl rfl,
  fun _ _ _ _ _ _ _ _ _ => er_get1 rfl,
  fun _ _ _ _ _ _ _ _ _ _ _ => er_callV rfl rfl rfl rfl,
  fun _ _ _ _ _ _ _ _ _ _ _ => er_callS rfl rfl rfl,
  fun _ _ _ _ _ _ _ _ _ => er_go rfl rfl,
  fun _ _ _ _ _ _ _ _ => er_go rfl rfl,
  fun _ _ _ _ _ _ _ _ => er_go rfl rfl,
  fun _ _ _ _ _ _ _ _ _ => er_go rfl rfl,
  fun _ _ _ _ _ _ _ _ => er_go rfl rfl,
  fun _ _ _ _ _ _ _ => er_go rfl rfl,
  fun _ _ _ _ _ _ _ _ _ => er_get1 rfl,
  fun _ _ _ _ _ _ _ _ _ _ => er_ic_ge rfl,
  fun _ _ _ _ _ _ _ _ => er_go rfl rfl,
  fun _ _ _ _ _ _ _ _ => er_go rfl rfl,
  fun _ _ _ _ _ _ _ _ _ _ => er_ic_ge rfl,
  fun _ _ _ _ _ _ _ _ => er_go rfl rfl,
  fun _ _ _ _ _ _ _ => er_go rfl rfl,
  fun _ _ _ _ _ _ _ _ => er_go rfl rfl,
  fun _ _ _ _ _ _ _ _ => er_go rfl rfl,
  fun _ _ _ _ _ _ _ => er_go rfl rfl,
  fun _ _ _ _ _ _ _ _ _ => er_get1 rfl,
  fun _ _ _ _ _ _ _ _ => er_go rfl rfl,
  fun _ _ _ _ _ _ _ => er_go rfl rfl,
  fun _ _ _ _ _ _ _ _ _ => er_get1 rfl,
  fun _ _ _ _ _ _ _ _ => er_go rfl rfl,
  fun _ _ _ _ _ _ _ => er_go rfl rfl,
  fun _ _ _ _ _ _ _ _ _ => er_get1 rfl,
  fun _ _ _ _ _ _ _ _ => er_go rfl rfl,
  fun _ _ _ _ _ _ _ _ _ _ => er_iald rfl,
  fun _ _ _ _ _ _ _ _ => er_go rfl rfl,
  fun _ _ _ _ _ _ _ => er_go rfl rfl,
  fun _ _ _ _ _ _ _ _ _ => er_get1 rfl,
  fun _ _ _ _ _ _ _ _ => er_go rfl rfl,
  fun _ _ _ _ _ _ _ _ _ _ => er_iald rfl,
  fun _ _ _ _ _ _ _ _ _ _ _ _ _ => er_callV rfl rfl rfl rfl,
  fun _ _ _ _ _ _ _ _ _ => er_if_ne rfl,
  fun _ _ _ _ _ _ _ _ => er_go rfl rfl,
  fun _ _ _ _ _ _ _ _ => er_retZ rfl rfl,
  fun _ _ _ _ _ _ _ _ => er_go rfl rfl,
  fun _ _ _ _ _ _ _ _ _ => er_if_ne rfl,
  fun _ _ _ _ _ _ _ _ => er_go rfl rfl,
  fun _ _ _ _ _ _ _ => er_go rfl rfl,
  fun _ _ _ _ _ _ _ _ _ => er_get1 rfl,
  fun _ _ _ _ _ _ _ _ => er_go rfl rfl,
  fun _ _ _ _ _ _ _ => er_go rfl rfl,
  fun _ _ _ _ _ _ _ _ _ => er_callV rfl rfl rfl rfl,
  fun _ _ _ _ _ _ _ _ _ => er_go rfl rfl,
  fun _ _ _ _ _ _ _ _ => er_go rfl rfl,
  fun _ _ _ _ _ _ _ => er_go rfl rfl,
  fun _ _ _ _ _ _ _ _ _ => er_go rfl rfl,
  fun _ _ _ _ _ _ _ _ _ => er_get1 rfl,
  fun _ _ _ _ _ _ _ _ => er_go rfl rfl,
  fun _ _ _ _ _ _ _ _ _ _ => er_go rfl rfl,
  fun _ _ _ _ _ _ _ _ _ _ => er_put1 rfl rfl,
  fun _ _ _ _ _ _ _ _ => er_go rfl rfl,
  fun _ _ _ _ _ _ _ _ => er_go rfl rfl,
  fun _ _ _ _ _ _ _ _ => er_go rfl rfl,
  fun _ _ _ _ _ _ _ => er_go rfl rfl,
  fun _ _ _ _ _ _ _ _ => er_go rfl rfl,
  fun _ _ _ _ _ _ _ _ => er_go rfl rfl,
  fun _ _ _ _ _ _ _ => er_go rfl rfl,
  fun _ _ _ _ _ _ _ _ _ => er_get1 rfl,
  fun _ _ _ _ _ _ _ _ => er_go rfl rfl,
  fun _ _ _ _ _ _ _ => er_go rfl rfl,
  fun _ _ _ _ _ _ _ _ _ => er_get1 rfl,
  fun _ _ _ _ _ _ _ _ => er_go rfl rfl,
  fun _ _ _ _ _ _ _ _ => er_go rfl rfl,
  fun _ _ _ _ _ _ _ _ _ _ _ _ _ => er_callV rfl rfl rfl rfl,
  fun _ _ _ _ _ _ _ _ _ => er_if_ne rfl,
  fun _ _ _ _ _ _ _ _ => er_go rfl rfl,
  fun _ _ _ _ _ _ _ _ => er_retZ rfl rfl,
  fun _ _ _ _ _ _ _ _ => er_go rfl rfl,
  fun _ _ _ _ _ _ _ => er_go rfl rfl,
  fun _ _ _ _ _ _ _ _ => er_go rfl rfl,
  fun _ _ _ _ _ _ _ _ _ _ => er_put1 rfl rfl,
  fun _ _ _ _ _ _ _ _ => er_go rfl rfl,
  fun _ _ _ _ _ _ _ => er_go rfl rfl,
  fun _ _ _ _ _ _ _ _ => er_go rfl rfl,
  fun _ _ _ _ _ _ _ _ _ _ => er_put1 rfl rfl,
  fun _ _ _ _ _ _ _ _ => er_go rfl rfl,
  fun _ _ _ _ _ _ _ => er_go rfl rfl,
  fun _ _ _ _ _ _ _ _ => er_go rfl rfl,
  fun _ _ _ _ _ _ _ _ _ _ => er_put1 rfl rfl,
  fun _ _ _ _ _ _ _ _ => er_go rfl rfl,
  fun _ _ _ _ _ _ _ _ => er_retZ rfl rfl⟩
theorem hd64_25 : ∀ (P : Nat × Nat) (l0 : Option Value) (l1 : Option Value) (l2 : Option Value) (l3 : Option Value) (x0 : Int32) (s : List Value) (h : am_H), am_E P 64 25 [l0, l1, l2, l3, some (.int x0)] s h = am_E P 64 27 [l0, l1, l2, l3, some (.int x0)] (.int x0 :: s) h := fun _ _ _ _ _ _ _ _ => er_go rfl rfl
/-- TwoStepOutputs.keepMark(II)Z -/
theorem r65 : (∀ (P : Nat × Nat) (l1 : Option Value) (l2 : Option Value) (a0 : Nat) (s : List Value) (h : am_H), am_E P 65 0 [some (.ref a0), l1, l2] s h = am_E P 65 1 [some (.ref a0), l1, l2] (.ref a0 :: s) h) ∧
  (∀ (P : Nat × Nat) (l1 : Option Value) (l2 : Option Value) (s : List Value) (h : am_H), am_E P 65 0 [some .null, l1, l2] s h = am_E P 65 1 [some .null, l1, l2] (.null :: s) h) ∧
  (∀ (P : Nat × Nat) (l0 : Option Value) (l2 : Option Value) (x0 : Int32) (s : List Value) (h : am_H), am_E P 65 1 [l0, some (.int x0), l2] s h = am_E P 65 2 [l0, some (.int x0), l2] (.int x0 :: s) h) ∧
  (∀ (P : Nat × Nat) (l0 : Option Value) (l1 : Option Value) (l2 : Option Value) (s : List Value) (h : am_H), am_E P 65 2 [l0, l1, l2] s h = am_E P 65 4 [l0, l1, l2] (.int (-6) :: s) h) ∧
  (∀ (P : Nat × Nat) (l0 : Option Value) (l1 : Option Value) (l2 : Option Value) (s : List Value) (h : am_H), am_E P 65 4 [l0, l1, l2] s h = am_E P 65 6 [l0, l1, l2] (.int (-6) :: s) h) ∧
  (∀ (P : Nat × Nat) (l0 : Option Value) (l1 : Option Value) (x0 : Int32) (s : List Value) (h : am_H), am_E P 65 6 [l0, l1, some (.int x0)] s h = am_E P 65 7 [l0, l1, some (.int x0)] (.int x0 :: s) h) ∧
  (∀ (P : Nat × Nat) (l0 : Option Value) (l1 : Option Value) (l2 : Option Value) (s : List Value) (h : am_H), am_E P 65 7 [l0, l1, l2] s h = am_E P 65 9 [l0, l1, l2] (.int (-6) :: s) h) ∧
  (∀ (P : Nat × Nat) (l0 : Option Value) (l1 : Option Value) (l2 : Option Value) (a0 : Nat) (x0 : Int32) (x1 : Int32) (x2 : Int32) (x3 : Int32) (x4 : Int32) (h : am_H), am_E P 65 9 [l0, l1, l2] [.int x4, .int x3, .int x2, .int x1, .int x0, .ref a0] h = if am_cls h a0 = some 8 then (am_E P 60 0 [some (.ref a0), some (.int x0), some (.int x1), some (.int x2), some (.int x3), some (.int x4)] [] h).bind (fun q => am_E P 65 12 [l0, l1, l2] (q.1.toList ++ []) q.2) else none) ∧
  (∀ (P : Nat × Nat) (l0 : Option Value) (l1 : Option Value) (l2 : Option Value) (x0 : Int32) (s : List Value) (h : am_H), am_E P 65 12 [l0, l1, l2] (.int x0 :: s) h = if x0 = 0 then am_E P 65 15 [l0, l1, l2] s h else am_E P 65 17 [l0, l1, l2] s h) ∧
  (∀ (P : Nat × Nat) (l0 : Option Value) (l1 : Option Value) (l2 : Option Value) (s : List Value) (h : am_H), am_E P 65 15 [l0, l1, l2] s h = am_E P 65 16 [l0, l1, l2] (.int 0 :: s) h) ∧
  (∀ (P : Nat × Nat) (l0 : Option Value) (l1 : Option Value) (l2 : Option Value) (x0 : Int32) (h : am_H), am_E P 65 16 [l0, l1, l2] [.int x0] h = if x0 = 0 ∨ x0 = 1 then some (some (.int x0), h) else none) ∧
  (∀ (P : Nat × Nat) (l1 : Option Value) (l2 : Option Value) (a0 : Nat) (s : List Value) (h : am_H), am_E P 65 17 [some (.ref a0), l1, l2] s h = am_E P 65 18 [some (.ref a0), l1, l2] (.ref a0 :: s) h) ∧
  (∀ (P : Nat × Nat) (l1 : Option Value) (l2 : Option Value) (s : List Value) (h : am_H), am_E P 65 17 [some .null, l1, l2] s h = am_E P 65 18 [some .null, l1, l2] (.null :: s) h) ∧
  (∀ (P : Nat × Nat) (l0 : Option Value) (l1 : Option Value) (x0 : Int32) (s : List Value) (h : am_H), am_E P 65 18 [l0, l1, some (.int x0)] s h = am_E P 65 19 [l0, l1, some (.int x0)] (.int x0 :: s) h) ∧
  (∀ (P : Nat × Nat) (l0 : Option Value) (l1 : Option Value) (l2 : Option Value) (a0 : Nat) (x0 : Int32) (s : List Value) (h : am_H), am_E P 65 19 [l0, l1, l2] (.int x0 :: .ref a0 :: s) h = (am_p1 h a0 8 4 (.int x0)).bind (fun h => am_E P 65 22 [l0, l1, l2] s h)) ∧
  (∀ (P : Nat × Nat) (l0 : Option Value) (l2 : Option Value) (x0 : Int32) (s : List Value) (h : am_H), am_E P 65 22 [l0, some (.int x0), l2] s h = am_E P 65 23 [l0, some (.int x0), l2] (.int x0 :: s) h) ∧
  (∀ (P : Nat × Nat) (l0 : Option Value) (l1 : Option Value) (l2 : Option Value) (s : List Value) (h : am_H), am_E P 65 23 [l0, l1, l2] s h = am_E P 65 24 [l0, l1, l2] (.int 5 :: s) h) ∧
  (∀ (P : Nat × Nat) (l0 : Option Value) (l1 : Option Value) (l2 : Option Value) (x0 : Int32) (x1 : Int32) (s : List Value) (h : am_H), am_E P 65 24 [l0, l1, l2] (.int x1 :: .int x0 :: s) h = if x0 = x1 then am_E P 65 27 [l0, l1, l2] s h else am_E P 65 32 [l0, l1, l2] s h) ∧
  (∀ (P : Nat × Nat) (l1 : Option Value) (l2 : Option Value) (a0 : Nat) (s : List Value) (h : am_H), am_E P 65 27 [some (.ref a0), l1, l2] s h = am_E P 65 28 [some (.ref a0), l1, l2] (.ref a0 :: s) h) ∧
  (∀ (P : Nat × Nat) (l1 : Option Value) (l2 : Option Value) (s : List Value) (h : am_H), am_E P 65 27 [some .null, l1, l2] s h = am_E P 65 28 [some .null, l1, l2] (.null :: s) h) ∧
  (∀ (P : Nat × Nat) (l0 : Option Value) (l1 : Option Value) (l2 : Option Value) (s : List Value) (h : am_H), am_E P 65 28 [l0, l1, l2] s h = am_E P 65 29 [l0, l1, l2] (.int 1 :: s) h) ∧
  (∀ (P : Nat × Nat) (l0 : Option Value) (l1 : Option Value) (l2 : Option Value) (a0 : Nat) (x0 : Int32) (s : List Value) (h : am_H), am_E P 65 29 [l0, l1, l2] (.int x0 :: .ref a0 :: s) h = if x0 = 0 ∨ x0 = 1 then (am_p1 h a0 8 5 (.int x0)).bind (fun h => am_E P 65 32 [l0, l1, l2] s h) else none) ∧
  (∀ (P : Nat × Nat) (l0 : Option Value) (l1 : Option Value) (l2 : Option Value) (s : List Value) (h : am_H), am_E P 65 32 [l0, l1, l2] s h = am_E P 65 33 [l0, l1, l2] (.int 1 :: s) h) ∧
  (∀ (P : Nat × Nat) (l0 : Option Value) (l1 : Option Value) (l2 : Option Value) (x0 : Int32) (h : am_H), am_E P 65 33 [l0, l1, l2] [.int x0] h = if x0 = 0 ∨ x0 = 1 then some (some (.int x0), h) else none) :=
  ⟨fun _ _ _ _ _ _ => er_go rfl rfl,
  fun _ _ _ _ _ => er_go rfl rfl,
  fun _ _ _ _ _ _ => er_go rfl rfl,
  fun _ _ _ _ _ _ => er_go rfl rfl,
  fun _ _ _ _ _ _ => er_go rfl rfl,
  fun _ _ _ _ _ _ => er_go rfl rfl,
  fun _ _ _ _ _ _ => er_go rfl rfl,
  fun _ _ _ _ _ _ _ _ _ _ _ => er_callV rfl rfl rfl rfl,
  fun _ _ _ _ _ _ _ => er_if_ne rfl,
  fun _ _ _ _ _ _ => er_go rfl rfl,
  fun _ _ _ _ _ _ => er_retZ rfl rfl,
  fun _ _ _ _ _ _ => er_go rfl rfl,
  fun _ _ _ _ _ => er_go rfl rfl,
  fun _ _ _ _ _ _ => er_go rfl rfl,
  fun _ _ _ _ _ _ _ _ => er_put1 rfl rfl,
  fun _ _ _ _ _ _ => er_go rfl rfl,
  fun _ _ _ _ _ _ => er_go rfl rfl,
  fun _ _ _ _ _ _ _ _ => er_ic_ne rfl,
  fun _ _ _ _ _ _ => er_go rfl rfl,
  fun _ _ _ _ _ => er_go rfl rfl,
  fun _ _ _ _ _ _ => er_go rfl rfl,
  fun _ _ _ _ _ _ _ _ => er_putZ rfl rfl,
  fun _ _ _ _ _ _ => er_go rfl rfl,
  fun _ _ _ _ _ _ => er_retZ rfl rfl⟩
/-- TwoStepOutputs.showAll()I -/
theorem r66 : (∀ (P : Nat × Nat) (l0 : Option Value) (l1 : Option Value) (l2 : Option Value) (l3 : Option Value) (s : List Value) (h : am_H), am_E P 66 0 [l0, l1, l2, l3] s h = am_E P 66 1 [l0, l1, l2, l3] (.int 0 :: s) h) ∧
  (∀ (P : Nat × Nat) (l0 : Option Value) (l1 : Option Value) (l2 : Option Value) (l3 : Option Value) (x0 : Int32) (s : List Value) (h : am_H), am_E P 66 1 [l0, l1, l2, l3] (.int x0 :: s) h = am_E P 66 2 [l0, some (.int x0), l2, l3] s h) ∧
  (∀ (P : Nat × Nat) (l0 : Option Value) (l1 : Option Value) (l2 : Option Value) (l3 : Option Value) (s : List Value) (h : am_H), am_E P 66 2 [l0, l1, l2, l3] s h = am_E P 66 3 [l0, l1, l2, l3] (.int 0 :: s) h) ∧
  (∀ (P : Nat × Nat) (l0 : Option Value) (l1 : Option Value) (l2 : Option Value) (l3 : Option Value) (x0 : Int32) (s : List Value) (h : am_H), am_E P 66 3 [l0, l1, l2, l3] (.int x0 :: s) h = am_E P 66 4 [l0, l1, some (.int x0), l3] s h) ∧
  (∀ (P : Nat × Nat) (l1 : Option Value) (l2 : Option Value) (l3 : Option Value) (a0 : Nat) (s : List Value) (h : am_H), am_E P 66 5 [some (.ref a0), l1, l2, l3] s h = am_E P 66 6 [some (.ref a0), l1, l2, l3] (.ref a0 :: s) h) ∧
  (∀ (P : Nat × Nat) (l1 : Option Value) (l2 : Option Value) (l3 : Option Value) (s : List Value) (h : am_H), am_E P 66 5 [some .null, l1, l2, l3] s h = am_E P 66 6 [some .null, l1, l2, l3] (.null :: s) h) ∧
  (∀ (P : Nat × Nat) (l0 : Option Value) (l1 : Option Value) (l2 : Option Value) (l3 : Option Value) (a0 : Nat) (s : List Value) (h : am_H), am_E P 66 6 [l0, l1, l2, l3] (.ref a0 :: s) h = (am_g1 h a0 8 0).bind (fun v => am_E P 66 9 [l0, l1, l2, l3] (v :: s) h)) ∧
  (∀ (P : Nat × Nat) (l0 : Option Value) (l1 : Option Value) (l2 : Option Value) (l3 : Option Value) (a0 : Nat) (v0 : Value) (h : am_H), am_E P 66 9 [l0, l1, l2, l3] [.ref a0, v0] h = if am_cls h a0 = some 0 then (am_E P 118 0 [some (.ref a0)] [] h).bind (fun q => am_E P 66 12 [l0, l1, l2, l3] (q.1.toList ++ [v0]) q.2) else none) ∧
  (∀ (P : Nat × Nat) (l0 : Option Value) (l1 : Option Value) (l2 : Option Value) (l3 : Option Value) (x0 : Int32) (x1 : Int32) (s : List Value) (h : am_H), am_E P 66 12 [l0, l1, l2, l3] (.int x1 :: .int x0 :: s) h = if x1 ≤ x0 then am_E P 66 50 [l0, l1, l2, l3] s h else am_E P 66 15 [l0, l1, l2, l3] s h) ∧
  (∀ (P : Nat × Nat) (l1 : Option Value) (l2 : Option Value) (l3 : Option Value) (a0 : Nat) (s : List Value) (h : am_H), am_E P 66 15 [some (.ref a0), l1, l2, l3] s h = am_E P 66 16 [some (.ref a0), l1, l2, l3] (.ref a0 :: s) h) ∧
  (∀ (P : Nat × Nat) (l1 : Option Value) (l2 : Option Value) (l3 : Option Value) (s : List Value) (h : am_H), am_E P 66 15 [some .null, l1, l2, l3] s h = am_E P 66 16 [some .null, l1, l2, l3] (.null :: s) h) ∧
  (∀ (P : Nat × Nat) (l1 : Option Value) (l2 : Option Value) (l3 : Option Value) (a0 : Nat) (s : List Value) (h : am_H), am_E P 66 16 [some (.ref a0), l1, l2, l3] s h = am_E P 66 17 [some (.ref a0), l1, l2, l3] (.ref a0 :: s) h) ∧
  (∀ (P : Nat × Nat) (l1 : Option Value) (l2 : Option Value) (l3 : Option Value) (s : List Value) (h : am_H), am_E P 66 16 [some .null, l1, l2, l3] s h = am_E P 66 17 [some .null, l1, l2, l3] (.null :: s) h) ∧
  (∀ (P : Nat × Nat) (l0 : Option Value) (l1 : Option Value) (l2 : Option Value) (l3 : Option Value) (a0 : Nat) (s : List Value) (h : am_H), am_E P 66 17 [l0, l1, l2, l3] (.ref a0 :: s) h = (am_g1 h a0 8 0).bind (fun v => am_E P 66 20 [l0, l1, l2, l3] (v :: s) h)) ∧
  (∀ (P : Nat × Nat) (l0 : Option Value) (l1 : Option Value) (l3 : Option Value) (x0 : Int32) (s : List Value) (h : am_H), am_E P 66 20 [l0, l1, some (.int x0), l3] s h = am_E P 66 21 [l0, l1, some (.int x0), l3] (.int x0 :: s) h) ∧
  (∀ (P : Nat × Nat) (l0 : Option Value) (l1 : Option Value) (l2 : Option Value) (l3 : Option Value) (a0 : Nat) (x0 : Int32) (v0 : Value) (h : am_H), am_E P 66 21 [l0, l1, l2, l3] [.int x0, .ref a0, v0] h = if am_cls h a0 = some 0 then (am_E P 120 0 [some (.ref a0), some (.int x0)] [] h).bind (fun q => am_E P 66 24 [l0, l1, l2, l3] (q.1.toList ++ [v0]) q.2) else none) ∧
  (∀ (P : Nat × Nat) (l0 : Option Value) (l1 : Option Value) (l2 : Option Value) (l3 : Option Value) (a0 : Nat) (s : List Value) (h : am_H), am_E P 66 24 [l0, l1, l2, l3] (.ref a0 :: s) h = if am_cls h a0 = some 4 then am_E P 66 27 [l0, l1, l2, l3] (.ref a0 :: s) h else none) ∧
  (∀ (P : Nat × Nat) (l0 : Option Value) (l1 : Option Value) (l2 : Option Value) (l3 : Option Value) (s : List Value) (h : am_H), am_E P 66 24 [l0, l1, l2, l3] (.null :: s) h = am_E P 66 27 [l0, l1, l2, l3] (.null :: s) h) ∧
  (∀ (P : Nat × Nat) (l0 : Option Value) (l1 : Option Value) (l2 : Option Value) (l3 : Option Value) (a0 : Nat) (a1 : Nat) (h : am_H), am_E P 66 27 [l0, l1, l2, l3] [.ref a1, .ref a0] h = if am_cls h a0 = some 8 then (am_E P 67 0 [some (.ref a0), some (.ref a1), none, none, none, none] [] h).bind (fun q => am_E P 66 30 [l0, l1, l2, l3] (q.1.toList ++ []) q.2) else none) ∧
  (∀ (P : Nat × Nat) (l0 : Option Value) (l1 : Option Value) (l2 : Option Value) (l3 : Option Value) (x0 : Int32) (s : List Value) (h : am_H), am_E P 66 30 [l0, l1, l2, l3] (.int x0 :: s) h = am_E P 66 31 [l0, l1, l2, some (.int x0)] s h) ∧
  (∀ (P : Nat × Nat) (l0 : Option Value) (l1 : Option Value) (l2 : Option Value) (x0 : Int32) (s : List Value) (h : am_H), am_E P 66 31 [l0, l1, l2, some (.int x0)] s h = am_E P 66 32 [l0, l1, l2, some (.int x0)] (.int x0 :: s) h) ∧
  (∀ (P : Nat × Nat) (l0 : Option Value) (l1 : Option Value) (l2 : Option Value) (l3 : Option Value) (s : List Value) (h : am_H), am_E P 66 32 [l0, l1, l2, l3] s h = am_E P 66 34 [l0, l1, l2, l3] (.int (-5) :: s) h) ∧
  (∀ (P : Nat × Nat) (l0 : Option Value) (l1 : Option Value) (l2 : Option Value) (l3 : Option Value) (x0 : Int32) (x1 : Int32) (s : List Value) (h : am_H), am_E P 66 34 [l0, l1, l2, l3] (.int x1 :: .int x0 :: s) h = if x0 = x1 then am_E P 66 37 [l0, l1, l2, l3] s h else am_E P 66 40 [l0, l1, l2, l3] s h) ∧
  (∀ (P : Nat × Nat) (l0 : Option Value) (l1 : Option Value) (l2 : Option Value) (l3 : Option Value) (s : List Value) (h : am_H), am_E P 66 37 [l0, l1, l2, l3] s h = am_E P 66 39 [l0, l1, l2, l3] (.int (-5) :: s) h) ∧
  (∀ (P : Nat × Nat) (l0 : Option Value) (l1 : Option Value) (l2 : Option Value) (l3 : Option Value) (x0 : Int32) (h : am_H), am_E P 66 39 [l0, l1, l2, l3] [.int x0] h = some (some (.int x0), h)) ∧
  (∀ (P : Nat × Nat) (l0 : Option Value) (l2 : Option Value) (l3 : Option Value) (x0 : Int32) (s : List Value) (h : am_H), am_E P 66 40 [l0, some (.int x0), l2, l3] s h = am_E P 66 41 [l0, some (.int x0), l2, l3] (.int x0 :: s) h) ∧
  (∀ (P : Nat × Nat) (l0 : Option Value) (l1 : Option Value) (l2 : Option Value) (x0 : Int32) (s : List Value) (h : am_H), am_E P 66 41 [l0, l1, l2, some (.int x0)] s h = am_E P 66 42 [l0, l1, l2, some (.int x0)] (.int x0 :: s) h) ∧
  (∀ (P : Nat × Nat) (l0 : Option Value) (l1 : Option Value) (l2 : Option Value) (l3 : Option Value) (x0 : Int32) (x1 : Int32) (s : List Value) (h : am_H), am_E P 66 42 [l0, l1, l2, l3] (.int x1 :: .int x0 :: s) h = am_E P 66 43 [l0, l1, l2, l3] (.int (x0 + x1) :: s) h) ∧
  (∀ (P : Nat × Nat) (l0 : Option Value) (l1 : Option Value) (l2 : Option Value) (l3 : Option Value) (x0 : Int32) (s : List Value) (h : am_H), am_E P 66 43 [l0, l1, l2, l3] (.int x0 :: s) h = am_E P 66 44 [l0, some (.int x0), l2, l3] s h) ∧
  (∀ (P : Nat × Nat) (l0 : Option Value) (l1 : Option Value) (l3 : Option Value) (x0 : Int32) (s : List Value) (h : am_H), am_E P 66 44 [l0, l1, some (.int x0), l3] s h = am_E P 66 47 [l0, l1, some (.int (x0 + 1)), l3] s h) ∧
  (∀ (P : Nat × Nat) (l0 : Option Value) (l1 : Option Value) (l2 : Option Value) (l3 : Option Value) (s : List Value) (h : am_H), am_E P 66 47 [l0, l1, l2, l3] s h = am_E P 66 4 [l0, l1, l2, l3] s h) ∧
  (∀ (P : Nat × Nat) (l0 : Option Value) (l2 : Option Value) (l3 : Option Value) (x0 : Int32) (s : List Value) (h : am_H), am_E P 66 50 [l0, some (.int x0), l2, l3] s h = am_E P 66 51 [l0, some (.int x0), l2, l3] (.int x0 :: s) h) ∧
  (∀ (P : Nat × Nat) (l0 : Option Value) (l1 : Option Value) (l2 : Option Value) (l3 : Option Value) (x0 : Int32) (h : am_H), am_E P 66 51 [l0, l1, l2, l3] [.int x0] h = some (some (.int x0), h)) :=
  ⟨fun _ _ _ _ _ _ _ => er_go rfl rfl,
  fun _ _ _ _ _ _ _ _ => er_go rfl rfl,
  fun _ _ _ _ _ _ _ => er_go rfl rfl,
  fun _ _ _ _ _ _ _ _ => er_go rfl rfl,
  fun _ _ _ _ _ _ _ => er_go rfl rfl,
  fun _ _ _ _ _ _ => er_go rfl rfl,
  fun _ _ _ _ _ _ _ _ => er_get1 rfl,
  fun _ _ _ _ _ _ _ _ => er_callV rfl rfl rfl rfl,
  fun _ _ _ _ _ _ _ _ _ => er_ic_ge rfl,
  fun _ _ _ _ _ _ _ => er_go rfl rfl,
  fun _ _ _ _ _ _ => er_go rfl rfl,
  fun _ _ _ _ _ _ _ => er_go rfl rfl,
  fun _ _ _ _ _ _ => er_go rfl rfl,
  fun _ _ _ _ _ _ _ _ => er_get1 rfl,
  fun _ _ _ _ _ _ _ => er_go rfl rfl,
  fun _ _ _ _ _ _ _ _ _ => er_callV rfl rfl rfl rfl,
  fun _ _ _ _ _ _ _ _ => er_cast rfl,
  fun _ _ _ _ _ _ _ => er_go rfl rfl,
  fun _ _ _ _ _ _ _ _ => er_callV rfl rfl rfl rfl,
  fun _ _ _ _ _ _ _ _ => er_go rfl rfl,
  fun _ _ _ _ _ _ _ => er_go rfl rfl,
  fun _ _ _ _ _ _ _ => er_go rfl rfl,
  fun _ _ _ _ _ _ _ _ _ => er_ic_ne rfl,
  fun _ _ _ _ _ _ _ => er_go rfl rfl,
  fun _ _ _ _ _ _ _ => er_ret rfl rfl,
  fun _ _ _ _ _ _ _ => er_go rfl rfl,
  fun _ _ _ _ _ _ _ => er_go rfl rfl,
  fun _ _ _ _ _ _ _ _ _ => er_go rfl rfl,
  fun _ _ _ _ _ _ _ _ => er_go rfl rfl,
  fun _ _ _ _ _ _ _ => er_go rfl rfl,
  fun _ _ _ _ _ _ _ => er_go rfl rfl,
  fun _ _ _ _ _ _ _ => er_go rfl rfl,
  fun _ _ _ _ _ _ _ => er_ret rfl rfl⟩
theorem hd66_4 : ∀ (P : Nat × Nat) (l0 : Option Value) (l1 : Option Value) (l3 : Option Value) (x0 : Int32) (s : List Value) (h : am_H), am_E P 66 4 [l0, l1, some (.int x0), l3] s h = am_E P 66 5 [l0, l1, some (.int x0), l3] (.int x0 :: s) h := fun _ _ _ _ _ _ _ => er_go rfl rfl
/-- TwoStepOutputs.showOutput(LTwoStepOutputs$Output;)I -/
theorem r67 : (∀ (P : Nat × Nat) (l0 : Option Value) (l1 : Option Value) (l2 : Option Value) (l3 : Option Value) (l4 : Option Value) (l5 : Option Value) (s : List Value) (h : am_H), am_E P 67 0 [l0, l1, l2, l3, l4, l5] s h = am_E P 67 1 [l0, l1, l2, l3, l4, l5] (.int 0 :: s) h) ∧
  (∀ (P : Nat × Nat) (l0 : Option Value) (l1 : Option Value) (l2 : Option Value) (l3 : Option Value) (l4 : Option Value) (l5 : Option Value) (x0 : Int32) (s : List Value) (h : am_H), am_E P 67 1 [l0, l1, l2, l3, l4, l5] (.int x0 :: s) h = am_E P 67 2 [l0, l1, some (.int x0), l3, l4, l5] s h) ∧
  (∀ (P : Nat × Nat) (l0 : Option Value) (l1 : Option Value) (l2 : Option Value) (l3 : Option Value) (l4 : Option Value) (l5 : Option Value) (s : List Value) (h : am_H), am_E P 67 2 [l0, l1, l2, l3, l4, l5] s h = am_E P 67 3 [l0, l1, l2, l3, l4, l5] (.int 0 :: s) h) ∧
  (∀ (P : Nat × Nat) (l0 : Option Value) (l1 : Option Value) (l2 : Option Value) (l3 : Option Value) (l4 : Option Value) (l5 : Option Value) (x0 : Int32) (s : List Value) (h : am_H), am_E P 67 3 [l0, l1, l2, l3, l4, l5] (.int x0 :: s) h = am_E P 67 4 [l0, l1, l2, some (.int x0), l4, l5] s h) ∧
  (∀ (P : Nat × Nat) (l0 : Option Value) (l2 : Option Value) (l3 : Option Value) (l4 : Option Value) (l5 : Option Value) (a0 : Nat) (s : List Value) (h : am_H), am_E P 67 5 [l0, some (.ref a0), l2, l3, l4, l5] s h = am_E P 67 6 [l0, some (.ref a0), l2, l3, l4, l5] (.ref a0 :: s) h) ∧
  (∀ (P : Nat × Nat) (l0 : Option Value) (l2 : Option Value) (l3 : Option Value) (l4 : Option Value) (l5 : Option Value) (s : List Value) (h : am_H), am_E P 67 5 [l0, some .null, l2, l3, l4, l5] s h = am_E P 67 6 [l0, some .null, l2, l3, l4, l5] (.null :: s) h) ∧
  (∀ (P : Nat × Nat) (l0 : Option Value) (l1 : Option Value) (l2 : Option Value) (l3 : Option Value) (l4 : Option Value) (l5 : Option Value) (a0 : Nat) (s : List Value) (h : am_H), am_E P 67 6 [l0, l1, l2, l3, l4, l5] (.ref a0 :: s) h = (am_g1 h a0 4 5).bind (fun v => am_E P 67 9 [l0, l1, l2, l3, l4, l5] (v :: s) h)) ∧
  (∀ (P : Nat × Nat) (l0 : Option Value) (l1 : Option Value) (l2 : Option Value) (l3 : Option Value) (l4 : Option Value) (l5 : Option Value) (a0 : Nat) (v0 : Value) (h : am_H), am_E P 67 9 [l0, l1, l2, l3, l4, l5] [.ref a0, v0] h = if am_cls h a0 = some 0 then (am_E P 118 0 [some (.ref a0)] [] h).bind (fun q => am_E P 67 12 [l0, l1, l2, l3, l4, l5] (q.1.toList ++ [v0]) q.2) else none) ∧
  (∀ (P : Nat × Nat) (l0 : Option Value) (l1 : Option Value) (l2 : Option Value) (l3 : Option Value) (l4 : Option Value) (l5 : Option Value) (x0 : Int32) (x1 : Int32) (s : List Value) (h : am_H), am_E P 67 12 [l0, l1, l2, l3, l4, l5] (.int x1 :: .int x0 :: s) h = if x1 ≤ x0 then am_E P 67 91 [l0, l1, l2, l3, l4, l5] s h else am_E P 67 15 [l0, l1, l2, l3, l4, l5] s h) ∧
  (∀ (P : Nat × Nat) (l0 : Option Value) (l2 : Option Value) (l3 : Option Value) (l4 : Option Value) (l5 : Option Value) (a0 : Nat) (s : List Value) (h : am_H), am_E P 67 15 [l0, some (.ref a0), l2, l3, l4, l5] s h = am_E P 67 16 [l0, some (.ref a0), l2, l3, l4, l5] (.ref a0 :: s) h) ∧
  (∀ (P : Nat × Nat) (l0 : Option Value) (l2 : Option Value) (l3 : Option Value) (l4 : Option Value) (l5 : Option Value) (s : List Value) (h : am_H), am_E P 67 15 [l0, some .null, l2, l3, l4, l5] s h = am_E P 67 16 [l0, some .null, l2, l3, l4, l5] (.null :: s) h) ∧
  (∀ (P : Nat × Nat) (l0 : Option Value) (l1 : Option Value) (l2 : Option Value) (l3 : Option Value) (l4 : Option Value) (l5 : Option Value) (a0 : Nat) (s : List Value) (h : am_H), am_E P 67 16 [l0, l1, l2, l3, l4, l5] (.ref a0 :: s) h = (am_g1 h a0 4 5).bind (fun v => am_E P 67 19 [l0, l1, l2, l3, l4, l5] (v :: s) h)) ∧
  (∀ (P : Nat × Nat) (l0 : Option Value) (l1 : Option Value) (l2 : Option Value) (l4 : Option Value) (l5 : Option Value) (x0 : Int32) (s : List Value) (h : am_H), am_E P 67 19 [l0, l1, l2, some (.int x0), l4, l5] s h = am_E P 67 20 [l0, l1, l2, some (.int x0), l4, l5] (.int x0 :: s) h) ∧
  (∀ (P : Nat × Nat) (l0 : Option Value) (l1 : Option Value) (l2 : Option Value) (l3 : Option Value) (l4 : Option Value) (l5 : Option Value) (a0 : Nat) (x0 : Int32) (h : am_H), am_E P 67 20 [l0, l1, l2, l3, l4, l5] [.int x0, .ref a0] h = if am_cls h a0 = some 0 then (am_E P 120 0 [some (.ref a0), some (.int x0)] [] h).bind (fun q => am_E P 67 23 [l0, l1, l2, l3, l4, l5] (q.1.toList ++ []) q.2) else none) ∧
  (∀ (P : Nat × Nat) (l0 : Option Value) (l1 : Option Value) (l2 : Option Value) (l3 : Option Value) (l4 : Option Value) (l5 : Option Value) (a0 : Nat) (s : List Value) (h : am_H), am_E P 67 23 [l0, l1, l2, l3, l4, l5] (.ref a0 :: s) h = if am_cls h a0 = some 5 then am_E P 67 26 [l0, l1, l2, l3, l4, l5] (.ref a0 :: s) h else none) ∧
  (∀ (P : Nat × Nat) (l0 : Option Value) (l1 : Option Value) (l2 : Option Value) (l3 : Option Value) (l4 : Option Value) (l5 : Option Value) (s : List Value) (h : am_H), am_E P 67 23 [l0, l1, l2, l3, l4, l5] (.null :: s) h = am_E P 67 26 [l0, l1, l2, l3, l4, l5] (.null :: s) h) ∧
  (∀ (P : Nat × Nat) (l0 : Option Value) (l1 : Option Value) (l2 : Option Value) (l3 : Option Value) (l4 : Option Value) (l5 : Option Value) (a0 : Nat) (s : List Value) (h : am_H), am_E P 67 26 [l0, l1, l2, l3, l4, l5] (.ref a0 :: s) h = am_E P 67 28 [l0, l1, l2, l3, some (.ref a0), l5] s h) ∧
  (∀ (P : Nat × Nat) (l0 : Option Value) (l1 : Option Value) (l2 : Option Value) (l3 : Option Value) (l4 : Option Value) (l5 : Option Value) (s : List Value) (h : am_H), am_E P 67 26 [l0, l1, l2, l3, l4, l5] (.null :: s) h = am_E P 67 28 [l0, l1, l2, l3, some .null, l5] s h) ∧
  (∀ (P : Nat × Nat) (l0 : Option Value) (l1 : Option Value) (l2 : Option Value) (l3 : Option Value) (l5 : Option Value) (a0 : Nat) (s : List Value) (h : am_H), am_E P 67 28 [l0, l1, l2, l3, some (.ref a0), l5] s h = am_E P 67 30 [l0, l1, l2, l3, some (.ref a0), l5] (.ref a0 :: s) h) ∧
  (∀ (P : Nat × Nat) (l0 : Option Value) (l1 : Option Value) (l2 : Option Value) (l3 : Option Value) (l5 : Option Value) (s : List Value) (h : am_H), am_E P 67 28 [l0, l1, l2, l3, some .null, l5] s h = am_E P 67 30 [l0, l1, l2, l3, some .null, l5] (.null :: s) h) ∧
  (∀ (P : Nat × Nat) (l0 : Option Value) (l1 : Option Value) (l2 : Option Value) (l3 : Option Value) (l4 : Option Value) (l5 : Option Value) (a0 : Nat) (s : List Value) (h : am_H), am_E P 67 30 [l0, l1, l2, l3, l4, l5] (.ref a0 :: s) h = (am_g1 h a0 5 4).bind (fun v => am_E P 67 33 [l0, l1, l2, l3, l4, l5] (v :: s) h)) ∧
  (∀ (P : Nat × Nat) (l0 : Option Value) (l1 : Option Value) (l2 : Option Value) (l3 : Option Value) (l4 : Option Value) (l5 : Option Value) (s : List Value) (h : am_H), am_E P 67 33 [l0, l1, l2, l3, l4, l5] s h = am_E P 67 34 [l0, l1, l2, l3, l4, l5] (.int 1 :: s) h) ∧
  (∀ (P : Nat × Nat) (l0 : Option Value) (l1 : Option Value) (l2 : Option Value) (l3 : Option Value) (l4 : Option Value) (l5 : Option Value) (x0 : Int32) (x1 : Int32) (s : List Value) (h : am_H), am_E P 67 34 [l0, l1, l2, l3, l4, l5] (.int x1 :: .int x0 :: s) h = if x0 = x1 then am_E P 67 37 [l0, l1, l2, l3, l4, l5] s h else am_E P 67 85 [l0, l1, l2, l3, l4, l5] s h) ∧
  (∀ (P : Nat × Nat) (l0 : Option Value) (l1 : Option Value) (l2 : Option Value) (l3 : Option Value) (l5 : Option Value) (a0 : Nat) (s : List Value) (h : am_H), am_E P 67 37 [l0, l1, l2, l3, some (.ref a0), l5] s h = am_E P 67 39 [l0, l1, l2, l3, some (.ref a0), l5] (.ref a0 :: s) h) ∧
  (∀ (P : Nat × Nat) (l0 : Option Value) (l1 : Option Value) (l2 : Option Value) (l3 : Option Value) (l5 : Option Value) (s : List Value) (h : am_H), am_E P 67 37 [l0, l1, l2, l3, some .null, l5] s h = am_E P 67 39 [l0, l1, l2, l3, some .null, l5] (.null :: s) h) ∧
  (∀ (P : Nat × Nat) (l0 : Option Value) (l1 : Option Value) (l2 : Option Value) (l3 : Option Value) (l4 : Option Value) (l5 : Option Value) (a0 : Nat) (s : List Value) (h : am_H), am_E P 67 39 [l0, l1, l2, l3, l4, l5] (.ref a0 :: s) h = (am_g1 h a0 5 3).bind (fun v => am_E P 67 42 [l0, l1, l2, l3, l4, l5] (v :: s) h)) ∧
  (∀ (P : Nat × Nat) (l1 : Option Value) (l2 : Option Value) (l3 : Option Value) (l4 : Option Value) (l5 : Option Value) (a0 : Nat) (s : List Value) (h : am_H), am_E P 67 42 [some (.ref a0), l1, l2, l3, l4, l5] s h = am_E P 67 43 [some (.ref a0), l1, l2, l3, l4, l5] (.ref a0 :: s) h) ∧
  (∀ (P : Nat × Nat) (l1 : Option Value) (l2 : Option Value) (l3 : Option Value) (l4 : Option Value) (l5 : Option Value) (s : List Value) (h : am_H), am_E P 67 42 [some .null, l1, l2, l3, l4, l5] s h = am_E P 67 43 [some .null, l1, l2, l3, l4, l5] (.null :: s) h) ∧
  (∀ (P : Nat × Nat) (l0 : Option Value) (l1 : Option Value) (l2 : Option Value) (l3 : Option Value) (l4 : Option Value) (l5 : Option Value) (a0 : Nat) (s : List Value) (h : am_H), am_E P 67 43 [l0, l1, l2, l3, l4, l5] (.ref a0 :: s) h = (am_g1 h a0 8 4).bind (fun v => am_E P 67 46 [l0, l1, l2, l3, l4, l5] (v :: s) h)) ∧
  (∀ (P : Nat × Nat) (l0 : Option Value) (l1 : Option Value) (l2 : Option Value) (l3 : Option Value) (l4 : Option Value) (l5 : Option Value) (x0 : Int32) (x1 : Int32) (s : List Value) (h : am_H), am_E P 67 46 [l0, l1, l2, l3, l4, l5] (.int x1 :: .int x0 :: s) h = if x0 ≤ x1 then am_E P 67 52 [l0, l1, l2, l3, l4, l5] s h else am_E P 67 49 [l0, l1, l2, l3, l4, l5] s h) ∧
  (∀ (P : Nat × Nat) (l0 : Option Value) (l1 : Option Value) (l2 : Option Value) (l3 : Option Value) (l4 : Option Value) (l5 : Option Value) (s : List Value) (h : am_H), am_E P 67 49 [l0, l1, l2, l3, l4, l5] s h = am_E P 67 85 [l0, l1, l2, l3, l4, l5] s h) ∧
  (∀ (P : Nat × Nat) (l0 : Option Value) (l2 : Option Value) (l3 : Option Value) (l4 : Option Value) (l5 : Option Value) (a0 : Nat) (s : List Value) (h : am_H), am_E P 67 52 [l0, some (.ref a0), l2, l3, l4, l5] s h = am_E P 67 53 [l0, some (.ref a0), l2, l3, l4, l5] (.ref a0 :: s) h) ∧
  (∀ (P : Nat × Nat) (l0 : Option Value) (l2 : Option Value) (l3 : Option Value) (l4 : Option Value) (l5 : Option Value) (s : List Value) (h : am_H), am_E P 67 52 [l0, some .null, l2, l3, l4, l5] s h = am_E P 67 53 [l0, some .null, l2, l3, l4, l5] (.null :: s) h) ∧
  (∀ (P : Nat × Nat) (l0 : Option Value) (l1 : Option Value) (l2 : Option Value) (l3 : Option Value) (l4 : Option Value) (l5 : Option Value) (a0 : Nat) (h : am_H), am_E P 67 53 [l0, l1, l2, l3, l4, l5] [.ref a0] h = if am_cls h a0 = some 4 then (am_E P 14 0 [some (.ref a0)] [] h).bind (fun q => am_E P 67 56 [l0, l1, l2, l3, l4, l5] (q.1.toList ++ []) q.2) else none) ∧
  (∀ (P : Nat × Nat) (l0 : Option Value) (l1 : Option Value) (l2 : Option Value) (l3 : Option Value) (l4 : Option Value) (l5 : Option Value) (x0 : Int32) (s : List Value) (h : am_H), am_E P 67 56 [l0, l1, l2, l3, l4, l5] (.int x0 :: s) h = if x0 = 0 then am_E P 67 61 [l0, l1, l2, l3, l4, l5] s h else am_E P 67 59 [l0, l1, l2, l3, l4, l5] s h) ∧
  (∀ (P : Nat × Nat) (l0 : Option Value) (l1 : Option Value) (l3 : Option Value) (l4 : Option Value) (l5 : Option Value) (x0 : Int32) (s : List Value) (h : am_H), am_E P 67 59 [l0, l1, some (.int x0), l3, l4, l5] s h = am_E P 67 60 [l0, l1, some (.int x0), l3, l4, l5] (.int x0 :: s) h) ∧
  (∀ (P : Nat × Nat) (l0 : Option Value) (l1 : Option Value) (l2 : Option Value) (l3 : Option Value) (l4 : Option Value) (l5 : Option Value) (x0 : Int32) (h : am_H), am_E P 67 60 [l0, l1, l2, l3, l4, l5] [.int x0] h = some (some (.int x0), h)) ∧
  (∀ (P : Nat × Nat) (l1 : Option Value) (l2 : Option Value) (l3 : Option Value) (l4 : Option Value) (l5 : Option Value) (a0 : Nat) (s : List Value) (h : am_H), am_E P 67 61 [some (.ref a0), l1, l2, l3, l4, l5] s h = am_E P 67 62 [some (.ref a0), l1, l2, l3, l4, l5] (.ref a0 :: s) h) ∧
  (∀ (P : Nat × Nat) (l1 : Option Value) (l2 : Option Value) (l3 : Option Value) (l4 : Option Value) (l5 : Option Value) (s : List Value) (h : am_H), am_E P 67 61 [some .null, l1, l2, l3, l4, l5] s h = am_E P 67 62 [some .null, l1, l2, l3, l4, l5] (.null :: s) h) ∧
  (∀ (P : Nat × Nat) (l0 : Option Value) (l2 : Option Value) (l3 : Option Value) (l4 : Option Value) (l5 : Option Value) (a0 : Nat) (s : List Value) (h : am_H), am_E P 67 62 [l0, some (.ref a0), l2, l3, l4, l5] s h = am_E P 67 63 [l0, some (.ref a0), l2, l3, l4, l5] (.ref a0 :: s) h) ∧
  (∀ (P : Nat × Nat) (l0 : Option Value) (l2 : Option Value) (l3 : Option Value) (l4 : Option Value) (l5 : Option Value) (s : List Value) (h : am_H), am_E P 67 62 [l0, some .null, l2, l3, l4, l5] s h = am_E P 67 63 [l0, some .null, l2, l3, l4, l5] (.null :: s) h) ∧
  (∀ (P : Nat × Nat) (l0 : Option Value) (l1 : Option Value) (l2 : Option Value) (l3 : Option Value) (l5 : Option Value) (a0 : Nat) (s : List Value) (h : am_H), am_E P 67 63 [l0, l1, l2, l3, some (.ref a0), l5] s h = am_E P 67 65 [l0, l1, l2, l3, some (.ref a0), l5] (.ref a0 :: s) h) ∧
  (∀ (P : Nat × Nat) (l0 : Option Value) (l1 : Option Value) (l2 : Option Value) (l3 : Option Value) (l5 : Option Value) (s : List Value) (h : am_H), am_E P 67 63 [l0, l1, l2, l3, some .null, l5] s h = am_E P 67 65 [l0, l1, l2, l3, some .null, l5] (.null :: s) h) ∧
  (∀ (P : Nat × Nat) (l0 : Option Value) (l1 : Option Value) (l2 : Option Value) (l3 : Option Value) (l4 : Option Value) (l5 : Option Value) (a0 : Nat) (a1 : Nat) (a2 : Nat) (h : am_H), am_E P 67 65 [l0, l1, l2, l3, l4, l5] [.ref a2, .ref a1, .ref a0] h = if am_cls h a0 = some 8 then (am_E P 68 0 [some (.ref a0), some (.ref a1), some (.ref a2), none, none, none, none, none] [] h).bind (fun q => am_E P 67 68 [l0, l1, l2, l3, l4, l5] (q.1.toList ++ []) q.2) else none) ∧
  (∀ (P : Nat × Nat) (l0 : Option Value) (l1 : Option Value) (l2 : Option Value) (l3 : Option Value) (l4 : Option Value) (l5 : Option Value) (x0 : Int32) (s : List Value) (h : am_H), am_E P 67 68 [l0, l1, l2, l3, l4, l5] (.int x0 :: s) h = am_E P 67 70 [l0, l1, l2, l3, l4, some (.int x0)] s h) ∧
  (∀ (P : Nat × Nat) (l0 : Option Value) (l1 : Option Value) (l2 : Option Value) (l3 : Option Value) (l4 : Option Value) (x0 : Int32) (s : List Value) (h : am_H), am_E P 67 70 [l0, l1, l2, l3, l4, some (.int x0)] s h = am_E P 67 72 [l0, l1, l2, l3, l4, some (.int x0)] (.int x0 :: s) h) ∧
  (∀ (P : Nat × Nat) (l0 : Option Value) (l1 : Option Value) (l2 : Option Value) (l3 : Option Value) (l4 : Option Value) (l5 : Option Value) (s : List Value) (h : am_H), am_E P 67 72 [l0, l1, l2, l3, l4, l5] s h = am_E P 67 74 [l0, l1, l2, l3, l4, l5] (.int (-5) :: s) h) ∧
  (∀ (P : Nat × Nat) (l0 : Option Value) (l1 : Option Value) (l2 : Option Value) (l3 : Option Value) (l4 : Option Value) (l5 : Option Value) (x0 : Int32) (x1 : Int32) (s : List Value) (h : am_H), am_E P 67 74 [l0, l1, l2, l3, l4, l5] (.int x1 :: .int x0 :: s) h = if x0 = x1 then am_E P 67 77 [l0, l1, l2, l3, l4, l5] s h else am_E P 67 80 [l0, l1, l2, l3, l4, l5] s h) ∧
  (∀ (P : Nat × Nat) (l0 : Option Value) (l1 : Option Value) (l2 : Option Value) (l3 : Option Value) (l4 : Option Value) (l5 : Option Value) (s : List Value) (h : am_H), am_E P 67 77 [l0, l1, l2, l3, l4, l5] s h = am_E P 67 79 [l0, l1, l2, l3, l4, l5] (.int (-5) :: s) h) ∧
  (∀ (P : Nat × Nat) (l0 : Option Value) (l1 : Option Value) (l2 : Option Value) (l3 : Option Value) (l4 : Option Value) (l5 : Option Value) (x0 : Int32) (h : am_H), am_E P 67 79 [l0, l1, l2, l3, l4, l5] [.int x0] h = some (some (.int x0), h)) ∧
  (∀ (P : Nat × Nat) (l0 : Option Value) (l1 : Option Value) (l3 : Option Value) (l4 : Option Value) (l5 : Option Value) (x0 : Int32) (s : List Value) (h : am_H), am_E P 67 80 [l0, l1, some (.int x0), l3, l4, l5] s h = am_E P 67 81 [l0, l1, some (.int x0), l3, l4, l5] (.int x0 :: s) h) ∧
  (∀ (P : Nat × Nat) (l0 : Option Value) (l1 : Option Value) (l2 : Option Value) (l3 : Option Value) (l4 : Option Value) (x0 : Int32) (s : List Value) (h : am_H), am_E P 67 81 [l0, l1, l2, l3, l4, some (.int x0)] s h = am_E P 67 83 [l0, l1, l2, l3, l4, some (.int x0)] (.int x0 :: s) h) ∧
  (∀ (P : Nat × Nat) (l0 : Option Value) (l1 : Option Value) (l2 : Option Value) (l3 : Option Value) (l4 : Option Value) (l5 : Option Value) (x0 : Int32) (x1 : Int32) (s : List Value) (h : am_H), am_E P 67 83 [l0, l1, l2, l3, l4, l5] (.int x1 :: .int x0 :: s) h = am_E P 67 84 [l0, l1, l2, l3, l4, l5] (.int (x0 + x1) :: s) h) ∧
  (∀ (P : Nat × Nat) (l0 : Option Value) (l1 : Option Value) (l2 : Option Value) (l3 : Option Value) (l4 : Option Value) (l5 : Option Value) (x0 : Int32) (s : List Value) (h : am_H), am_E P 67 84 [l0, l1, l2, l3, l4, l5] (.int x0 :: s) h = am_E P 67 85 [l0, l1, some (.int x0), l3, l4, l5] s h) ∧
  (∀ (P : Nat × Nat) (l0 : Option Value) (l1 : Option Value) (l2 : Option Value) (l4 : Option Value) (l5 : Option Value) (x0 : Int32) (s : List Value) (h : am_H), am_E P 67 85 [l0, l1, l2, some (.int x0), l4, l5] s h = am_E P 67 88 [l0, l1, l2, some (.int (x0 + 1)), l4, l5] s h) ∧
  (∀ (P : Nat × Nat) (l0 : Option Value) (l1 : Option Value) (l2 : Option Value) (l3 : Option Value) (l4 : Option Value) (l5 : Option Value) (s : List Value) (h : am_H), am_E P 67 88 [l0, l1, l2, l3, l4, l5] s h = am_E P 67 4 [l0, l1, l2, l3, l4, l5] s h) ∧
  (∀ (P : Nat × Nat) (l0 : Option Value) (l1 : Option Value) (l3 : Option Value) (l4 : Option Value) (l5 : Option Value) (x0 : Int32) (s : List Value) (h : am_H), am_E P 67 91 [l0, l1, some (.int x0), l3, l4, l5] s h = am_E P 67 92 [l0, l1, some (.int x0), l3, l4, l5] (.int x0 :: s) h) ∧
  (∀ (P : Nat × Nat) (l0 : Option Value) (l1 : Option Value) (l2 : Option Value) (l3 : Option Value) (l4 : Option Value) (l5 : Option Value) (x0 : Int32) (h : am_H), am_E P 67 92 [l0, l1, l2, l3, l4, l5] [.int x0] h = some (some (.int x0), h)) :=
  ⟨fun _ _ _ _ _ _ _ _ _ => er_go rfl rfl,
  fun _ _ _ _ _ _ _ _ _ _ => er_go rfl rfl,
  fun _ _ _ _ _ _ _ _ _ => er_go rfl rfl,
  fun _ _ _ _ _ _ _ _ _ _ => er_go rfl rfl,
  fun _ _ _ _ _ _ _ _ _ => er_go rfl rfl,
  fun _ _ _ _ _ _ _ _ => er_go rfl rfl,
  fun _ _ _ _ _ _ _ _ _ _ => er_get1 rfl,
  fun _ _ _ _ _ _ _ _ _ _ => er_callV rfl rfl rfl rfl,
  fun _ _ _ _ _ _ _ _ _ _ _ => er_ic_ge rfl,
  fun _ _ _ _ _ _ _ _ _ => er_go rfl rfl,
  fun _ _ _ _ _ _ _ _ => er_go rfl rfl,
  fun _ _ _ _ _ _ _ _ _ _ => er_get1 rfl,
  fun _ _ _ _ _ _ _ _ _ => er_go rfl rfl,
  fun _ _ _ _ _ _ _ _ _ _ => er_callV rfl rfl rfl rfl,
  fun _ _ _ _ _ _ _ _ _ _ => er_cast rfl,
  fun _ _ _ _ _ _ _ _ _ => er_go rfl rfl,
  fun _ _ _ _ _ _ _ _ _ _ => er_go rfl rfl,
  fun _ _ _ _ _ _ _ _ _ => er_go rfl rfl,
  fun _ _ _ _ _ _ _ _ _ => er_go rfl rfl,
  fun _ _ _ _ _ _ _ _ => er_go rfl rfl,
  fun _ _ _ _ _ _ _ _ _ _ => er_get1 rfl,
  fun _ _ _ _ _ _ _ _ _ => er_go rfl rfl,
  fun _ _ _ _ _ _ _ _ _ _ _ => er_ic_ne rfl,
  fun _ _ _ _ _ _ _ _ _ => er_go rfl rfl,
  fun _ _ _ _ _ _ _ _ => er_go rfl rfl,
  fun _ _ _ _ _ _ _ _ _ _ => er_get1 rfl,
  fun _ _ _ _ _ _ _ _ _ => er_go rfl rfl,
  fun _ _ _ _ _ _ _ _ => er_go rfl rfl,
  fun _ _ _ _ _ _ _ _ _ _ => er_get1 rfl,
  fun _ _ _ _ _ _ _ _ _ _ _ => er_ic_le rfl,
  fun _ _ _ _ _ _ _ _ _ => er_go rfl rfl,
  fun _ _ _ _ _ _ _ _ _ => er_go rfl rfl,
  fun _ _ _ _ _ _ _ _ => er_go rfl rfl,
  fun _ _ _ _ _ _ _ _ _ => er_callV rfl rfl rfl rfl,
  fun _ _ _ _ _ _ _ _ _ _ => er_if_eq rfl,
  fun _ _ _ _ _ _ _ _ _ => er_go rfl rfl,
  fun _ _ _ _ _ _ _ _ _ => er_ret rfl rfl,
  fun _ _ _ _ _ _ _ _ _ => er_go rfl rfl,
  fun _ _ _ _ _ _ _ _ => er_go rfl rfl,
  fun _ _ _ _ _ _ _ _ _ => er_go rfl rfl,
  fun _ _ _ _ _ _ _ _ => er_go rfl rfl,
  fun _ _ _ _ _ _ _ _ _ => er_go rfl rfl,
  fun _ _ _ _ _ _ _ _ => er_go rfl rfl,
  fun _ _ _ _ _ _ _ _ _ _ _ => er_callV rfl rfl rfl rfl,
  fun _ _ _ _ _ _ _ _ _ _ => er_go rfl rfl,
  fun _ _ _ _ _ _ _ _ _ => er_go rfl rfl,
  fun _ _ _ _ _ _ _ _ _ => er_go rfl rfl,
  fun _ _ _ _ _ _ _ _ _ _ _ => er_ic_ne rfl,
  fun _ _ _ _ _ _ _ _ _ => er_go rfl rfl,
  fun _ _ _ _ _ _ _ _ _ => er_ret rfl rfl,
  fun _ _ _ _ _ _ _ _ _ => er_go rfl rfl,
  fun _ _ _ _ _ _ _ _ _ => er_go rfl rfl,
  fun _ _ _ _ _ _ _ _ _ _ _ => er_go rfl rfl,
  fun _ _ _ _ _ _ _ _ _ _ => er_go rfl rfl,
  fun _ _ _ _ _ _ _ _ _ => er_go rfl rfl,
  fun _ _ _ _ _ _ _ _ _ => er_go rfl rfl,
  fun _ _ _ _ _ _ _ _ _ => er_go rfl rfl,
  fun _ _ _ _ _ _ _ _ _ => er_ret rfl rfl⟩
theorem hd67_4 : ∀ (P : Nat × Nat) (l0 : Option Value) (l1 : Option Value) (l2 : Option Value) (l4 : Option Value) (l5 : Option Value) (x0 : Int32) (s : List Value) (h : am_H), am_E P 67 4 [l0, l1, l2, some (.int x0), l4, l5] s h = am_E P 67 5 [l0, l1, l2, some (.int x0), l4, l5] (.int x0 :: s) h := fun _ _ _ _ _ _ _ _ _ => er_go rfl rfl
/-- TwoStepOutputs.showPart(LTwoStepOutputs$Output;LTwoStepOutputs$Part;)I -/
theorem r68 : (∀ (P : Nat × Nat) (l0 : Option Value) (l1 : Option Value) (l2 : Option Value) (l3 : Option Value) (l4 : Option Value) (l5 : Option Value) (l6 : Option Value) (l7 : Option Value) (s : List Value) (h : am_H), am_E P 68 0 [l0, l1, l2, l3, l4, l5, l6, l7] s h = am_E P 68 1 [l0, l1, l2, l3, l4, l5, l6, l7] (.int 0 :: s) h) ∧
  (∀ (P : Nat × Nat) (l0 : Option Value) (l1 : Option Value) (l2 : Option Value) (l3 : Option Value) (l4 : Option Value) (l5 : Option Value) (l6 : Option Value) (l7 : Option Value) (x0 : Int32) (s : List Value) (h : am_H), am_E P 68 1 [l0, l1, l2, l3, l4, l5, l6, l7] (.int x0 :: s) h = am_E P 68 2 [l0, l1, l2, some (.int x0), l4, l5, l6, l7] s h) ∧
  (∀ (P : Nat × Nat) (l0 : Option Value) (l1 : Option Value) (l2 : Option Value) (l3 : Option Value) (l4 : Option Value) (l5 : Option Value) (l6 : Option Value) (l7 : Option Value) (s : List Value) (h : am_H), am_E P 68 2 [l0, l1, l2, l3, l4, l5, l6, l7] s h = am_E P 68 3 [l0, l1, l2, l3, l4, l5, l6, l7] (.int 0 :: s) h) ∧
  (∀ (P : Nat × Nat) (l0 : Option Value) (l1 : Option Value) (l2 : Option Value) (l3 : Option Value) (l4 : Option Value) (l5 : Option Value) (l6 : Option Value) (l7 : Option Value) (x0 : Int32) (s : List Value) (h : am_H), am_E P 68 3 [l0, l1, l2, l3, l4, l5, l6, l7] (.int x0 :: s) h = am_E P 68 5 [l0, l1, l2, l3, some (.int x0), l5, l6, l7] s h) ∧
  (∀ (P : Nat × Nat) (l0 : Option Value) (l1 : Option Value) (l3 : Option Value) (l4 : Option Value) (l5 : Option Value) (l6 : Option Value) (l7 : Option Value) (a0 : Nat) (s : List Value) (h : am_H), am_E P 68 7 [l0, l1, some (.ref a0), l3, l4, l5, l6, l7] s h = am_E P 68 8 [l0, l1, some (.ref a0), l3, l4, l5, l6, l7] (.ref a0 :: s) h) ∧
  (∀ (P : Nat × Nat) (l0 : Option Value) (l1 : Option Value) (l3 : Option Value) (l4 : Option Value) (l5 : Option Value) (l6 : Option Value) (l7 : Option Value) (s : List Value) (h : am_H), am_E P 68 7 [l0, l1, some .null, l3, l4, l5, l6, l7] s h = am_E P 68 8 [l0, l1, some .null, l3, l4, l5, l6, l7] (.null :: s) h) ∧
  (∀ (P : Nat × Nat) (l0 : Option Value) (l1 : Option Value) (l2 : Option Value) (l3 : Option Value) (l4 : Option Value) (l5 : Option Value) (l6 : Option Value) (l7 : Option Value) (a0 : Nat) (s : List Value) (h : am_H), am_E P 68 8 [l0, l1, l2, l3, l4, l5, l6, l7] (.ref a0 :: s) h = (am_g1 h a0 5 2).bind (fun v => am_E P 68 11 [l0, l1, l2, l3, l4, l5, l6, l7] (v :: s) h)) ∧
  (∀ (P : Nat × Nat) (l0 : Option Value) (l1 : Option Value) (l2 : Option Value) (l3 : Option Value) (l4 : Option Value) (l5 : Option Value) (l6 : Option Value) (l7 : Option Value) (x0 : Int32) (x1 : Int32) (s : List Value) (h : am_H), am_E P 68 11 [l0, l1, l2, l3, l4, l5, l6, l7] (.int x1 :: .int x0 :: s) h = if x1 ≤ x0 then am_E P 68 118 [l0, l1, l2, l3, l4, l5, l6, l7] s h else am_E P 68 14 [l0, l1, l2, l3, l4, l5, l6, l7] s h) ∧
  (∀ (P : Nat × Nat) (l1 : Option Value) (l2 : Option Value) (l3 : Option Value) (l4 : Option Value) (l5 : Option Value) (l6 : Option Value) (l7 : Option Value) (a0 : Nat) (s : List Value) (h : am_H), am_E P 68 14 [some (.ref a0), l1, l2, l3, l4, l5, l6, l7] s h = am_E P 68 15 [some (.ref a0), l1, l2, l3, l4, l5, l6, l7] (.ref a0 :: s) h) ∧
  (∀ (P : Nat × Nat) (l1 : Option Value) (l2 : Option Value) (l3 : Option Value) (l4 : Option Value) (l5 : Option Value) (l6 : Option Value) (l7 : Option Value) (s : List Value) (h : am_H), am_E P 68 14 [some .null, l1, l2, l3, l4, l5, l6, l7] s h = am_E P 68 15 [some .null, l1, l2, l3, l4, l5, l6, l7] (.null :: s) h) ∧
  (∀ (P : Nat × Nat) (l0 : Option Value) (l1 : Option Value) (l2 : Option Value) (l3 : Option Value) (l4 : Option Value) (l5 : Option Value) (l6 : Option Value) (l7 : Option Value) (a0 : Nat) (h : am_H), am_E P 68 15 [l0, l1, l2, l3, l4, l5, l6, l7] [.ref a0] h = if am_cls h a0 = some 8 then (am_E P 58 0 [some (.ref a0)] [] h).bind (fun q => am_E P 68 18 [l0, l1, l2, l3, l4, l5, l6, l7] (q.1.toList ++ []) q.2) else none) ∧
  (∀ (P : Nat × Nat) (l0 : Option Value) (l1 : Option Value) (l2 : Option Value) (l3 : Option Value) (l4 : Option Value) (l5 : Option Value) (l6 : Option Value) (l7 : Option Value) (x0 : Int32) (s : List Value) (h : am_H), am_E P 68 18 [l0, l1, l2, l3, l4, l5, l6, l7] (.int x0 :: s) h = if x0 = 0 then am_E P 68 21 [l0, l1, l2, l3, l4, l5, l6, l7] s h else am_E P 68 24 [l0, l1, l2, l3, l4, l5, l6, l7] s h) ∧
  (∀ (P : Nat × Nat) (l0 : Option Value) (l1 : Option Value) (l2 : Option Value) (l3 : Option Value) (l4 : Option Value) (l5 : Option Value) (l6 : Option Value) (l7 : Option Value) (s : List Value) (h : am_H), am_E P 68 21 [l0, l1, l2, l3, l4, l5, l6, l7] s h = am_E P 68 23 [l0, l1, l2, l3, l4, l5, l6, l7] (.int (-5) :: s) h) ∧
  (∀ (P : Nat × Nat) (l0 : Option Value) (l1 : Option Value) (l2 : Option Value) (l3 : Option Value) (l4 : Option Value) (l5 : Option Value) (l6 : Option Value) (l7 : Option Value) (x0 : Int32) (h : am_H), am_E P 68 23 [l0, l1, l2, l3, l4, l5, l6, l7] [.int x0] h = some (some (.int x0), h)) ∧
  (∀ (P : Nat × Nat) (l1 : Option Value) (l2 : Option Value) (l3 : Option Value) (l4 : Option Value) (l5 : Option Value) (l6 : Option Value) (l7 : Option Value) (a0 : Nat) (s : List Value) (h : am_H), am_E P 68 24 [some (.ref a0), l1, l2, l3, l4, l5, l6, l7] s h = am_E P 68 25 [some (.ref a0), l1, l2, l3, l4, l5, l6, l7] (.ref a0 :: s) h) ∧
  (∀ (P : Nat × Nat) (l1 : Option Value) (l2 : Option Value) (l3 : Option Value) (l4 : Option Value) (l5 : Option Value) (l6 : Option Value) (l7 : Option Value) (s : List Value) (h : am_H), am_E P 68 24 [some .null, l1, l2, l3, l4, l5, l6, l7] s h = am_E P 68 25 [some .null, l1, l2, l3, l4, l5, l6, l7] (.null :: s) h) ∧
  (∀ (P : Nat × Nat) (l0 : Option Value) (l1 : Option Value) (l2 : Option Value) (l3 : Option Value) (l4 : Option Value) (l5 : Option Value) (l6 : Option Value) (l7 : Option Value) (a0 : Nat) (s : List Value) (h : am_H), am_E P 68 25 [l0, l1, l2, l3, l4, l5, l6, l7] (.ref a0 :: s) h = (am_g1 h a0 8 2).bind (fun v => am_E P 68 28 [l0, l1, l2, l3, l4, l5, l6, l7] (v :: s) h)) ∧
  (∀ (P : Nat × Nat) (l0 : Option Value) (l1 : Option Value) (l3 : Option Value) (l4 : Option Value) (l5 : Option Value) (l6 : Option Value) (l7 : Option Value) (a0 : Nat) (s : List Value) (h : am_H), am_E P 68 28 [l0, l1, some (.ref a0), l3, l4, l5, l6, l7] s h = am_E P 68 29 [l0, l1, some (.ref a0), l3, l4, l5, l6, l7] (.ref a0 :: s) h) ∧
  (∀ (P : Nat × Nat) (l0 : Option Value) (l1 : Option Value) (l3 : Option Value) (l4 : Option Value) (l5 : Option Value) (l6 : Option Value) (l7 : Option Value) (s : List Value) (h : am_H), am_E P 68 28 [l0, l1, some .null, l3, l4, l5, l6, l7] s h = am_E P 68 29 [l0, l1, some .null, l3, l4, l5, l6, l7] (.null :: s) h) ∧
  (∀ (P : Nat × Nat) (l0 : Option Value) (l1 : Option Value) (l2 : Option Value) (l3 : Option Value) (l4 : Option Value) (l5 : Option Value) (l6 : Option Value) (l7 : Option Value) (a0 : Nat) (s : List Value) (h : am_H), am_E P 68 29 [l0, l1, l2, l3, l4, l5, l6, l7] (.ref a0 :: s) h = (am_g1 h a0 5 1).bind (fun v => am_E P 68 32 [l0, l1, l2, l3, l4, l5, l6, l7] (v :: s) h)) ∧
  (∀ (P : Nat × Nat) (l0 : Option Value) (l1 : Option Value) (l2 : Option Value) (l3 : Option Value) (l5 : Option Value) (l6 : Option Value) (l7 : Option Value) (x0 : Int32) (s : List Value) (h : am_H), am_E P 68 32 [l0, l1, l2, l3, some (.int x0), l5, l6, l7] s h = am_E P 68 34 [l0, l1, l2, l3, some (.int x0), l5, l6, l7] (.int x0 :: s) h) ∧
  (∀ (P : Nat × Nat) (l0 : Option Value) (l1 : Option Value) (l2 : Option Value) (l3 : Option Value) (l4 : Option Value) (l5 : Option Value) (l6 : Option Value) (l7 : Option Value) (x0 : Int32) (x1 : Int32) (s : List Value) (h : am_H), am_E P 68 34 [l0, l1, l2, l3, l4, l5, l6, l7] (.int x1 :: .int x0 :: s) h = am_E P 68 35 [l0, l1, l2, l3, l4, l5, l6, l7] (.int (x0 + x1) :: s) h) ∧
  (∀ (P : Nat × Nat) (l0 : Option Value) (l1 : Option Value) (l2 : Option Value) (l3 : Option Value) (l4 : Option Value) (l5 : Option Value) (l6 : Option Value) (l7 : Option Value) (s : List Value) (h : am_H), am_E P 68 35 [l0, l1, l2, l3, l4, l5, l6, l7] s h = am_E P 68 36 [l0, l1, l2, l3, l4, l5, l6, l7] (.int 3 :: s) h) ∧
  (∀ (P : Nat × Nat) (l0 : Option Value) (l1 : Option Value) (l2 : Option Value) (l3 : Option Value) (l4 : Option Value) (l5 : Option Value) (l6 : Option Value) (l7 : Option Value) (a0 : Nat) (x0 : Int32) (x1 : Int32) (h : am_H), am_E P 68 36 [l0, l1, l2, l3, l4, l5, l6, l7] [.int x1, .int x0, .ref a0] h = if am_cls h a0 = some 2 then (am_E P 26 0 [some (.ref a0), some (.int x0), some (.int x1)] [] h).bind (fun q => am_E P 68 39 [l0, l1, l2, l3, l4, l5, l6, l7] (q.1.toList ++ []) q.2) else none) ∧
  (∀ (P : Nat × Nat) (l0 : Option Value) (l1 : Option Value) (l2 : Option Value) (l3 : Option Value) (l4 : Option Value) (l5 : Option Value) (l6 : Option Value) (l7 : Option Value) (x0 : Int32) (s : List Value) (h : am_H), am_E P 68 39 [l0, l1, l2, l3, l4, l5, l6, l7] (.int x0 :: s) h = am_E P 68 41 [l0, l1, l2, l3, l4, some (.int x0), l6, l7] s h) ∧
  (∀ (P : Nat × Nat) (l1 : Option Value) (l2 : Option Value) (l3 : Option Value) (l4 : Option Value) (l5 : Option Value) (l6 : Option Value) (l7 : Option Value) (a0 : Nat) (s : List Value) (h : am_H), am_E P 68 41 [some (.ref a0), l1, l2, l3, l4, l5, l6, l7] s h = am_E P 68 42 [some (.ref a0), l1, l2, l3, l4, l5, l6, l7] (.ref a0 :: s) h) ∧
  (∀ (P : Nat × Nat) (l1 : Option Value) (l2 : Option Value) (l3 : Option Value) (l4 : Option Value) (l5 : Option Value) (l6 : Option Value) (l7 : Option Value) (s : List Value) (h : am_H), am_E P 68 41 [some .null, l1, l2, l3, l4, l5, l6, l7] s h = am_E P 68 42 [some .null, l1, l2, l3, l4, l5, l6, l7] (.null :: s) h) ∧
  (∀ (P : Nat × Nat) (l0 : Option Value) (l1 : Option Value) (l2 : Option Value) (l3 : Option Value) (l4 : Option Value) (l5 : Option Value) (l6 : Option Value) (l7 : Option Value) (a0 : Nat) (s : List Value) (h : am_H), am_E P 68 42 [l0, l1, l2, l3, l4, l5, l6, l7] (.ref a0 :: s) h = (am_g1 h a0 8 2).bind (fun v => am_E P 68 45 [l0, l1, l2, l3, l4, l5, l6, l7] (v :: s) h)) ∧
  (∀ (P : Nat × Nat) (l0 : Option Value) (l1 : Option Value) (l3 : Option Value) (l4 : Option Value) (l5 : Option Value) (l6 : Option Value) (l7 : Option Value) (a0 : Nat) (s : List Value) (h : am_H), am_E P 68 45 [l0, l1, some (.ref a0), l3, l4, l5, l6, l7] s h = am_E P 68 46 [l0, l1, some (.ref a0), l3, l4, l5, l6, l7] (.ref a0 :: s) h) ∧
  (∀ (P : Nat × Nat) (l0 : Option Value) (l1 : Option Value) (l3 : Option Value) (l4 : Option Value) (l5 : Option Value) (l6 : Option Value) (l7 : Option Value) (s : List Value) (h : am_H), am_E P 68 45 [l0, l1, some .null, l3, l4, l5, l6, l7] s h = am_E P 68 46 [l0, l1, some .null, l3, l4, l5, l6, l7] (.null :: s) h) ∧
  (∀ (P : Nat × Nat) (l0 : Option Value) (l1 : Option Value) (l2 : Option Value) (l3 : Option Value) (l4 : Option Value) (l5 : Option Value) (l6 : Option Value) (l7 : Option Value) (a0 : Nat) (s : List Value) (h : am_H), am_E P 68 46 [l0, l1, l2, l3, l4, l5, l6, l7] (.ref a0 :: s) h = (am_g1 h a0 5 1).bind (fun v => am_E P 68 49 [l0, l1, l2, l3, l4, l5, l6, l7] (v :: s) h)) ∧
  (∀ (P : Nat × Nat) (l0 : Option Value) (l1 : Option Value) (l2 : Option Value) (l3 : Option Value) (l5 : Option Value) (l6 : Option Value) (l7 : Option Value) (x0 : Int32) (s : List Value) (h : am_H), am_E P 68 49 [l0, l1, l2, l3, some (.int x0), l5, l6, l7] s h = am_E P 68 51 [l0, l1, l2, l3, some (.int x0), l5, l6, l7] (.int x0 :: s) h) ∧
  (∀ (P : Nat × Nat) (l0 : Option Value) (l1 : Option Value) (l2 : Option Value) (l3 : Option Value) (l4 : Option Value) (l5 : Option Value) (l6 : Option Value) (l7 : Option Value) (x0 : Int32) (x1 : Int32) (s : List Value) (h : am_H), am_E P 68 51 [l0, l1, l2, l3, l4, l5, l6, l7] (.int x1 :: .int x0 :: s) h = am_E P 68 52 [l0, l1, l2, l3, l4, l5, l6, l7] (.int (x0 + x1) :: s) h) ∧
  (∀ (P : Nat × Nat) (l0 : Option Value) (l1 : Option Value) (l2 : Option Value) (l3 : Option Value) (l4 : Option Value) (l5 : Option Value) (l6 : Option Value) (l7 : Option Value) (s : List Value) (h : am_H), am_E P 68 52 [l0, l1, l2, l3, l4, l5, l6, l7] s h = am_E P 68 53 [l0, l1, l2, l3, l4, l5, l6, l7] (.int 4 :: s) h) ∧
  (∀ (P : Nat × Nat) (l0 : Option Value) (l1 : Option Value) (l2 : Option Value) (l3 : Option Value) (l4 : Option Value) (l5 : Option Value) (l6 : Option Value) (l7 : Option Value) (a0 : Nat) (x0 : Int32) (x1 : Int32) (h : am_H), am_E P 68 53 [l0, l1, l2, l3, l4, l5, l6, l7] [.int x1, .int x0, .ref a0] h = if am_cls h a0 = some 2 then (am_E P 26 0 [some (.ref a0), some (.int x0), some (.int x1)] [] h).bind (fun q => am_E P 68 56 [l0, l1, l2, l3, l4, l5, l6, l7] (q.1.toList ++ []) q.2) else none) ∧
  (∀ (P : Nat × Nat) (l0 : Option Value) (l1 : Option Value) (l2 : Option Value) (l3 : Option Value) (l4 : Option Value) (l5 : Option Value) (l6 : Option Value) (l7 : Option Value) (x0 : Int32) (s : List Value) (h : am_H), am_E P 68 56 [l0, l1, l2, l3, l4, l5, l6, l7] (.int x0 :: s) h = am_E P 68 58 [l0, l1, l2, l3, l4, l5, some (.int x0), l7] s h) ∧
  (∀ (P : Nat × Nat) (l0 : Option Value) (l2 : Option Value) (l3 : Option Value) (l4 : Option Value) (l5 : Option Value) (l6 : Option Value) (l7 : Option Value) (a0 : Nat) (s : List Value) (h : am_H), am_E P 68 58 [l0, some (.ref a0), l2, l3, l4, l5, l6, l7] s h = am_E P 68 59 [l0, some (.ref a0), l2, l3, l4, l5, l6, l7] (.ref a0 :: s) h) ∧
  (∀ (P : Nat × Nat) (l0 : Option Value) (l2 : Option Value) (l3 : Option Value) (l4 : Option Value) (l5 : Option Value) (l6 : Option Value) (l7 : Option Value) (s : List Value) (h : am_H), am_E P 68 58 [l0, some .null, l2, l3, l4, l5, l6, l7] s h = am_E P 68 59 [l0, some .null, l2, l3, l4, l5, l6, l7] (.null :: s) h) ∧
  (∀ (P : Nat × Nat) (l0 : Option Value) (l1 : Option Value) (l2 : Option Value) (l3 : Option Value) (l4 : Option Value) (l5 : Option Value) (l6 : Option Value) (l7 : Option Value) (a0 : Nat) (s : List Value) (h : am_H), am_E P 68 59 [l0, l1, l2, l3, l4, l5, l6, l7] (.ref a0 :: s) h = (am_g1 h a0 4 1).bind (fun v => am_E P 68 62 [l0, l1, l2, l3, l4, l5, l6, l7] (v :: s) h)) ∧
  (∀ (P : Nat × Nat) (l0 : Option Value) (l1 : Option Value) (l2 : Option Value) (l3 : Option Value) (l4 : Option Value) (l5 : Option Value) (l6 : Option Value) (l7 : Option Value) (x0 : Int32) (s : List Value) (h : am_H), am_E P 68 62 [l0, l1, l2, l3, l4, l5, l6, l7] (.int x0 :: s) h = if x0 = 0 then am_E P 68 65 [l0, l1, l2, l3, l4, l5, l6, l7] s h else am_E P 68 85 [l0, l1, l2, l3, l4, l5, l6, l7] s h) ∧
  (∀ (P : Nat × Nat) (l0 : Option Value) (l2 : Option Value) (l3 : Option Value) (l4 : Option Value) (l5 : Option Value) (l6 : Option Value) (l7 : Option Value) (a0 : Nat) (s : List Value) (h : am_H), am_E P 68 65 [l0, some (.ref a0), l2, l3, l4, l5, l6, l7] s h = am_E P 68 66 [l0, some (.ref a0), l2, l3, l4, l5, l6, l7] (.ref a0 :: s) h) ∧
  (∀ (P : Nat × Nat) (l0 : Option Value) (l2 : Option Value) (l3 : Option Value) (l4 : Option Value) (l5 : Option Value) (l6 : Option Value) (l7 : Option Value) (s : List Value) (h : am_H), am_E P 68 65 [l0, some .null, l2, l3, l4, l5, l6, l7] s h = am_E P 68 66 [l0, some .null, l2, l3, l4, l5, l6, l7] (.null :: s) h) ∧
  (∀ (P : Nat × Nat) (l0 : Option Value) (l1 : Option Value) (l2 : Option Value) (l3 : Option Value) (l4 : Option Value) (l5 : Option Value) (l6 : Option Value) (l7 : Option Value) (a0 : Nat) (s : List Value) (h : am_H), am_E P 68 66 [l0, l1, l2, l3, l4, l5, l6, l7] (.ref a0 :: s) h = (am_g1 h a0 4 8).bind (fun v => am_E P 68 69 [l0, l1, l2, l3, l4, l5, l6, l7] (v :: s) h)) ∧
  (∀ (P : Nat × Nat) (l0 : Option Value) (l1 : Option Value) (l2 : Option Value) (l3 : Option Value) (l4 : Option Value) (l6 : Option Value) (l7 : Option Value) (x0 : Int32) (s : List Value) (h : am_H), am_E P 68 69 [l0, l1, l2, l3, l4, some (.int x0), l6, l7] s h = am_E P 68 71 [l0, l1, l2, l3, l4, some (.int x0), l6, l7] (.int x0 :: s) h) ∧
  (∀ (P : Nat × Nat) (l0 : Option Value) (l1 : Option Value) (l2 : Option Value) (l3 : Option Value) (l4 : Option Value) (l5 : Option Value) (l7 : Option Value) (x0 : Int32) (s : List Value) (h : am_H), am_E P 68 71 [l0, l1, l2, l3, l4, l5, some (.int x0), l7] s h = am_E P 68 73 [l0, l1, l2, l3, l4, l5, some (.int x0), l7] (.int x0 :: s) h) ∧
  (∀ (P : Nat × Nat) (l0 : Option Value) (l1 : Option Value) (l3 : Option Value) (l4 : Option Value) (l5 : Option Value) (l6 : Option Value) (l7 : Option Value) (a0 : Nat) (s : List Value) (h : am_H), am_E P 68 73 [l0, l1, some (.ref a0), l3, l4, l5, l6, l7] s h = am_E P 68 74 [l0, l1, some (.ref a0), l3, l4, l5, l6, l7] (.ref a0 :: s) h) ∧
  (∀ (P : Nat × Nat) (l0 : Option Value) (l1 : Option Value) (l3 : Option Value) (l4 : Option Value) (l5 : Option Value) (l6 : Option Value) (l7 : Option Value) (s : List Value) (h : am_H), am_E P 68 73 [l0, l1, some .null, l3, l4, l5, l6, l7] s h = am_E P 68 74 [l0, l1, some .null, l3, l4, l5, l6, l7] (.null :: s) h) ∧
  (∀ (P : Nat × Nat) (l0 : Option Value) (l1 : Option Value) (l2 : Option Value) (l3 : Option Value) (l4 : Option Value) (l5 : Option Value) (l6 : Option Value) (l7 : Option Value) (a0 : Nat) (s : List Value) (h : am_H), am_E P 68 74 [l0, l1, l2, l3, l4, l5, l6, l7] (.ref a0 :: s) h = (am_g1 h a0 5 0).bind (fun v => am_E P 68 77 [l0, l1, l2, l3, l4, l5, l6, l7] (v :: s) h)) ∧
  (∀ (P : Nat × Nat) (l0 : Option Value) (l1 : Option Value) (l2 : Option Value) (l3 : Option Value) (l5 : Option Value) (l6 : Option Value) (l7 : Option Value) (x0 : Int32) (s : List Value) (h : am_H), am_E P 68 77 [l0, l1, l2, l3, some (.int x0), l5, l6, l7] s h = am_E P 68 79 [l0, l1, l2, l3, some (.int x0), l5, l6, l7] (.int x0 :: s) h) ∧
  (∀ (P : Nat × Nat) (l0 : Option Value) (l1 : Option Value) (l2 : Option Value) (l3 : Option Value) (l4 : Option Value) (l5 : Option Value) (l6 : Option Value) (l7 : Option Value) (a0 : Nat) (x0 : Int32) (x1 : Int32) (x2 : Int32) (x3 : Int32) (h : am_H), am_E P 68 79 [l0, l1, l2, l3, l4, l5, l6, l7] [.int x3, .int x2, .int x1, .int x0, .ref a0] h = if am_cls h a0 = some 3 then (am_E P 8 0 [some (.ref a0), some (.int x0), some (.int x1), some (.int x2), some (.int x3), none] [] h).bind (fun q => am_E P 68 82 [l0, l1, l2, l3, l4, l5, l6, l7] (q.1.toList ++ []) q.2) else none) ∧
  (∀ (P : Nat × Nat) (l0 : Option Value) (l1 : Option Value) (l2 : Option Value) (l3 : Option Value) (l4 : Option Value) (l5 : Option Value) (l6 : Option Value) (l7 : Option Value) (s : List Value) (h : am_H), am_E P 68 82 [l0, l1, l2, l3, l4, l5, l6, l7] s h = am_E P 68 102 [l0, l1, l2, l3, l4, l5, l6, l7] s h) ∧
  (∀ (P : Nat × Nat) (l0 : Option Value) (l2 : Option Value) (l3 : Option Value) (l4 : Option Value) (l5 : Option Value) (l6 : Option Value) (l7 : Option Value) (a0 : Nat) (s : List Value) (h : am_H), am_E P 68 85 [l0, some (.ref a0), l2, l3, l4, l5, l6, l7] s h = am_E P 68 86 [l0, some (.ref a0), l2, l3, l4, l5, l6, l7] (.ref a0 :: s) h) ∧
  (∀ (P : Nat × Nat) (l0 : Option Value) (l2 : Option Value) (l3 : Option Value) (l4 : Option Value) (l5 : Option Value) (l6 : Option Value) (l7 : Option Value) (s : List Value) (h : am_H), am_E P 68 85 [l0, some .null, l2, l3, l4, l5, l6, l7] s h = am_E P 68 86 [l0, some .null, l2, l3, l4, l5, l6, l7] (.null :: s) h) ∧
  (∀ (P : Nat × Nat) (l0 : Option Value) (l1 : Option Value) (l2 : Option Value) (l3 : Option Value) (l4 : Option Value) (l5 : Option Value) (l6 : Option Value) (l7 : Option Value) (a0 : Nat) (s : List Value) (h : am_H), am_E P 68 86 [l0, l1, l2, l3, l4, l5, l6, l7] (.ref a0 :: s) h = (am_g1 h a0 4 9).bind (fun v => am_E P 68 89 [l0, l1, l2, l3, l4, l5, l6, l7] (v :: s) h)) ∧
  (∀ (P : Nat × Nat) (l0 : Option Value) (l1 : Option Value) (l2 : Option Value) (l3 : Option Value) (l4 : Option Value) (l6 : Option Value) (l7 : Option Value) (x0 : Int32) (s : List Value) (h : am_H), am_E P 68 89 [l0, l1, l2, l3, l4, some (.int x0), l6, l7] s h = am_E P 68 91 [l0, l1, l2, l3, l4, some (.int x0), l6, l7] (.int x0 :: s) h) ∧
  (∀ (P : Nat × Nat) (l0 : Option Value) (l1 : Option Value) (l2 : Option Value) (l3 : Option Value) (l4 : Option Value) (l5 : Option Value) (l7 : Option Value) (x0 : Int32) (s : List Value) (h : am_H), am_E P 68 91 [l0, l1, l2, l3, l4, l5, some (.int x0), l7] s h = am_E P 68 93 [l0, l1, l2, l3, l4, l5, some (.int x0), l7] (.int x0 :: s) h) ∧
  (∀ (P : Nat × Nat) (l0 : Option Value) (l1 : Option Value) (l3 : Option Value) (l4 : Option Value) (l5 : Option Value) (l6 : Option Value) (l7 : Option Value) (a0 : Nat) (s : List Value) (h : am_H), am_E P 68 93 [l0, l1, some (.ref a0), l3, l4, l5, l6, l7] s h = am_E P 68 94 [l0, l1, some (.ref a0), l3, l4, l5, l6, l7] (.ref a0 :: s) h) ∧
  (∀ (P : Nat × Nat) (l0 : Option Value) (l1 : Option Value) (l3 : Option Value) (l4 : Option Value) (l5 : Option Value) (l6 : Option Value) (l7 : Option Value) (s : List Value) (h : am_H), am_E P 68 93 [l0, l1, some .null, l3, l4, l5, l6, l7] s h = am_E P 68 94 [l0, l1, some .null, l3, l4, l5, l6, l7] (.null :: s) h) ∧
  (∀ (P : Nat × Nat) (l0 : Option Value) (l1 : Option Value) (l2 : Option Value) (l3 : Option Value) (l4 : Option Value) (l5 : Option Value) (l6 : Option Value) (l7 : Option Value) (a0 : Nat) (s : List Value) (h : am_H), am_E P 68 94 [l0, l1, l2, l3, l4, l5, l6, l7] (.ref a0 :: s) h = (am_g1 h a0 5 0).bind (fun v => am_E P 68 97 [l0, l1, l2, l3, l4, l5, l6, l7] (v :: s) h)) ∧
  (∀ (P : Nat × Nat) (l0 : Option Value) (l1 : Option Value) (l2 : Option Value) (l3 : Option Value) (l5 : Option Value) (l6 : Option Value) (l7 : Option Value) (x0 : Int32) (s : List Value) (h : am_H), am_E P 68 97 [l0, l1, l2, l3, some (.int x0), l5, l6, l7] s h = am_E P 68 99 [l0, l1, l2, l3, some (.int x0), l5, l6, l7] (.int x0 :: s) h) ∧
  (∀ (P : Nat × Nat) (l0 : Option Value) (l1 : Option Value) (l2 : Option Value) (l3 : Option Value) (l4 : Option Value) (l5 : Option Value) (l6 : Option Value) (l7 : Option Value) (a0 : Nat) (x0 : Int32) (x1 : Int32) (x2 : Int32) (x3 : Int32) (h : am_H), am_E P 68 99 [l0, l1, l2, l3, l4, l5, l6, l7] [.int x3, .int x2, .int x1, .int x0, .ref a0] h = if am_cls h a0 = some 7 then (am_E P 31 0 [some (.ref a0), some (.int x0), some (.int x1), some (.int x2), some (.int x3), none] [] h).bind (fun q => am_E P 68 102 [l0, l1, l2, l3, l4, l5, l6, l7] (q.1.toList ++ []) q.2) else none) ∧
  (∀ (P : Nat × Nat) (l0 : Option Value) (l1 : Option Value) (l2 : Option Value) (l3 : Option Value) (l4 : Option Value) (l5 : Option Value) (l6 : Option Value) (l7 : Option Value) (x0 : Int32) (s : List Value) (h : am_H), am_E P 68 102 [l0, l1, l2, l3, l4, l5, l6, l7] (.int x0 :: s) h = am_E P 68 104 [l0, l1, l2, l3, l4, l5, l6, some (.int x0)] s h) ∧
  (∀ (P : Nat × Nat) (l0 : Option Value) (l1 : Option Value) (l2 : Option Value) (l3 : Option Value) (l4 : Option Value) (l5 : Option Value) (l6 : Option Value) (x0 : Int32) (s : List Value) (h : am_H), am_E P 68 104 [l0, l1, l2, l3, l4, l5, l6, some (.int x0)] s h = am_E P 68 106 [l0, l1, l2, l3, l4, l5, l6, some (.int x0)] (.int x0 :: s) h) ∧
  (∀ (P : Nat × Nat) (l0 : Option Value) (l1 : Option Value) (l2 : Option Value) (l3 : Option Value) (l4 : Option Value) (l5 : Option Value) (l6 : Option Value) (l7 : Option Value) (x0 : Int32) (s : List Value) (h : am_H), am_E P 68 106 [l0, l1, l2, l3, l4, l5, l6, l7] (.int x0 :: s) h = if x0 = 0 then am_E P 68 112 [l0, l1, l2, l3, l4, l5, l6, l7] s h else am_E P 68 109 [l0, l1, l2, l3, l4, l5, l6, l7] s h) ∧
  (∀ (P : Nat × Nat) (l0 : Option Value) (l1 : Option Value) (l2 : Option Value) (l4 : Option Value) (l5 : Option Value) (l6 : Option Value) (l7 : Option Value) (x0 : Int32) (s : List Value) (h : am_H), am_E P 68 109 [l0, l1, l2, some (.int x0), l4, l5, l6, l7] s h = am_E P 68 112 [l0, l1, l2, some (.int (x0 + 1)), l4, l5, l6, l7] s h) ∧
  (∀ (P : Nat × Nat) (l0 : Option Value) (l1 : Option Value) (l2 : Option Value) (l3 : Option Value) (l5 : Option Value) (l6 : Option Value) (l7 : Option Value) (x0 : Int32) (s : List Value) (h : am_H), am_E P 68 112 [l0, l1, l2, l3, some (.int x0), l5, l6, l7] s h = am_E P 68 115 [l0, l1, l2, l3, some (.int (x0 + 1)), l5, l6, l7] s h) ∧
  (∀ (P : Nat × Nat) (l0 : Option Value) (l1 : Option Value) (l2 : Option Value) (l3 : Option Value) (l4 : Option Value) (l5 : Option Value) (l6 : Option Value) (l7 : Option Value) (s : List Value) (h : am_H), am_E P 68 115 [l0, l1, l2, l3, l4, l5, l6, l7] s h = am_E P 68 5 [l0, l1, l2, l3, l4, l5, l6, l7] s h) ∧
  (∀ (P : Nat × Nat) (l1 : Option Value) (l2 : Option Value) (l3 : Option Value) (l4 : Option Value) (l5 : Option Value) (l6 : Option Value) (l7 : Option Value) (a0 : Nat) (s : List Value) (h : am_H), am_E P 68 118 [some (.ref a0), l1, l2, l3, l4, l5, l6, l7] s h = am_E P 68 119 [some (.ref a0), l1, l2, l3, l4, l5, l6, l7] (.ref a0 :: s) h) ∧
  (∀ (P : Nat × Nat) (l1 : Option Value) (l2 : Option Value) (l3 : Option Value) (l4 : Option Value) (l5 : Option Value) (l6 : Option Value) (l7 : Option Value) (s : List Value) (h : am_H), am_E P 68 118 [some .null, l1, l2, l3, l4, l5, l6, l7] s h = am_E P 68 119 [some .null, l1, l2, l3, l4, l5, l6, l7] (.null :: s) h) ∧
  (∀ (P : Nat × Nat) (l0 : Option Value) (l1 : Option Value) (l2 : Option Value) (l3 : Option Value) (l4 : Option Value) (l5 : Option Value) (l6 : Option Value) (l7 : Option Value) (s : List Value) (h : am_H), am_E P 68 119 [l0, l1, l2, l3, l4, l5, l6, l7] s h = am_E P 68 120 [l0, l1, l2, l3, l4, l5, l6, l7] (.int 3 :: s) h) ∧
  (∀ (P : Nat × Nat) (l0 : Option Value) (l2 : Option Value) (l3 : Option Value) (l4 : Option Value) (l5 : Option Value) (l6 : Option Value) (l7 : Option Value) (a0 : Nat) (s : List Value) (h : am_H), am_E P 68 120 [l0, some (.ref a0), l2, l3, l4, l5, l6, l7] s h = am_E P 68 121 [l0, some (.ref a0), l2, l3, l4, l5, l6, l7] (.ref a0 :: s) h) ∧
  (∀ (P : Nat × Nat) (l0 : Option Value) (l2 : Option Value) (l3 : Option Value) (l4 : Option Value) (l5 : Option Value) (l6 : Option Value) (l7 : Option Value) (s : List Value) (h : am_H), am_E P 68 120 [l0, some .null, l2, l3, l4, l5, l6, l7] s h = am_E P 68 121 [l0, some .null, l2, l3, l4, l5, l6, l7] (.null :: s) h) ∧
  (∀ (P : Nat × Nat) (l0 : Option Value) (l1 : Option Value) (l2 : Option Value) (l3 : Option Value) (l4 : Option Value) (l5 : Option Value) (l6 : Option Value) (l7 : Option Value) (a0 : Nat) (s : List Value) (h : am_H), am_E P 68 121 [l0, l1, l2, l3, l4, l5, l6, l7] (.ref a0 :: s) h = (am_g1 h a0 4 0).bind (fun v => am_E P 68 124 [l0, l1, l2, l3, l4, l5, l6, l7] (v :: s) h)) ∧
  (∀ (P : Nat × Nat) (l0 : Option Value) (l1 : Option Value) (l3 : Option Value) (l4 : Option Value) (l5 : Option Value) (l6 : Option Value) (l7 : Option Value) (a0 : Nat) (s : List Value) (h : am_H), am_E P 68 124 [l0, l1, some (.ref a0), l3, l4, l5, l6, l7] s h = am_E P 68 125 [l0, l1, some (.ref a0), l3, l4, l5, l6, l7] (.ref a0 :: s) h) ∧
  (∀ (P : Nat × Nat) (l0 : Option Value) (l1 : Option Value) (l3 : Option Value) (l4 : Option Value) (l5 : Option Value) (l6 : Option Value) (l7 : Option Value) (s : List Value) (h : am_H), am_E P 68 124 [l0, l1, some .null, l3, l4, l5, l6, l7] s h = am_E P 68 125 [l0, l1, some .null, l3, l4, l5, l6, l7] (.null :: s) h) ∧
  (∀ (P : Nat × Nat) (l0 : Option Value) (l1 : Option Value) (l2 : Option Value) (l3 : Option Value) (l4 : Option Value) (l5 : Option Value) (l6 : Option Value) (l7 : Option Value) (a0 : Nat) (s : List Value) (h : am_H), am_E P 68 125 [l0, l1, l2, l3, l4, l5, l6, l7] (.ref a0 :: s) h = (am_g1 h a0 5 0).bind (fun v => am_E P 68 128 [l0, l1, l2, l3, l4, l5, l6, l7] (v :: s) h)) ∧
  (∀ (P : Nat × Nat) (l0 : Option Value) (l1 : Option Value) (l2 : Option Value) (l3 : Option Value) (l4 : Option Value) (l5 : Option Value) (l6 : Option Value) (l7 : Option Value) (s : List Value) (h : am_H), am_E P 68 128 [l0, l1, l2, l3, l4, l5, l6, l7] s h = am_E P 68 130 [l0, l1, l2, l3, l4, l5, l6, l7] (.int (-6) :: s) h) ∧
  (∀ (P : Nat × Nat) (l0 : Option Value) (l1 : Option Value) (l2 : Option Value) (l3 : Option Value) (l4 : Option Value) (l5 : Option Value) (l6 : Option Value) (l7 : Option Value) (s : List Value) (h : am_H), am_E P 68 130 [l0, l1, l2, l3, l4, l5, l6, l7] s h = am_E P 68 132 [l0, l1, l2, l3, l4, l5, l6, l7] (.int (-6) :: s) h) ∧
  (∀ (P : Nat × Nat) (l0 : Option Value) (l1 : Option Value) (l2 : Option Value) (l3 : Option Value) (l4 : Option Value) (l5 : Option Value) (l6 : Option Value) (l7 : Option Value) (a0 : Nat) (x0 : Int32) (x1 : Int32) (x2 : Int32) (x3 : Int32) (x4 : Int32) (h : am_H), am_E P 68 132 [l0, l1, l2, l3, l4, l5, l6, l7] [.int x4, .int x3, .int x2, .int x1, .int x0, .ref a0] h = if am_cls h a0 = some 8 then (am_E P 60 0 [some (.ref a0), some (.int x0), some (.int x1), some (.int x2), some (.int x3), some (.int x4)] [] h).bind (fun q => am_E P 68 135 [l0, l1, l2, l3, l4, l5, l6, l7] (q.1.toList ++ []) q.2) else none) ∧
  (∀ (P : Nat × Nat) (l0 : Option Value) (l1 : Option Value) (l2 : Option Value) (l3 : Option Value) (l4 : Option Value) (l5 : Option Value) (l6 : Option Value) (l7 : Option Value) (x0 : Int32) (s : List Value) (h : am_H), am_E P 68 135 [l0, l1, l2, l3, l4, l5, l6, l7] (.int x0 :: s) h = if x0 = 0 then am_E P 68 138 [l0, l1, l2, l3, l4, l5, l6, l7] s h else am_E P 68 141 [l0, l1, l2, l3, l4, l5, l6, l7] s h) ∧
  (∀ (P : Nat × Nat) (l0 : Option Value) (l1 : Option Value) (l2 : Option Value) (l3 : Option Value) (l4 : Option Value) (l5 : Option Value) (l6 : Option Value) (l7 : Option Value) (s : List Value) (h : am_H), am_E P 68 138 [l0, l1, l2, l3, l4, l5, l6, l7] s h = am_E P 68 140 [l0, l1, l2, l3, l4, l5, l6, l7] (.int (-5) :: s) h) ∧
  (∀ (P : Nat × Nat) (l0 : Option Value) (l1 : Option Value) (l2 : Option Value) (l3 : Option Value) (l4 : Option Value) (l5 : Option Value) (l6 : Option Value) (l7 : Option Value) (x0 : Int32) (h : am_H), am_E P 68 140 [l0, l1, l2, l3, l4, l5, l6, l7] [.int x0] h = some (some (.int x0), h)) ∧
  (∀ (P : Nat × Nat) (l0 : Option Value) (l1 : Option Value) (l3 : Option Value) (l4 : Option Value) (l5 : Option Value) (l6 : Option Value) (l7 : Option Value) (a0 : Nat) (s : List Value) (h : am_H), am_E P 68 141 [l0, l1, some (.ref a0), l3, l4, l5, l6, l7] s h = am_E P 68 142 [l0, l1, some (.ref a0), l3, l4, l5, l6, l7] (.ref a0 :: s) h) ∧
  (∀ (P : Nat × Nat) (l0 : Option Value) (l1 : Option Value) (l3 : Option Value) (l4 : Option Value) (l5 : Option Value) (l6 : Option Value) (l7 : Option Value) (s : List Value) (h : am_H), am_E P 68 141 [l0, l1, some .null, l3, l4, l5, l6, l7] s h = am_E P 68 142 [l0, l1, some .null, l3, l4, l5, l6, l7] (.null :: s) h) ∧
  (∀ (P : Nat × Nat) (l0 : Option Value) (l1 : Option Value) (l2 : Option Value) (l3 : Option Value) (l4 : Option Value) (l5 : Option Value) (l6 : Option Value) (l7 : Option Value) (s : List Value) (h : am_H), am_E P 68 142 [l0, l1, l2, l3, l4, l5, l6, l7] s h = am_E P 68 143 [l0, l1, l2, l3, l4, l5, l6, l7] (.int 2 :: s) h) ∧
  (∀ (P : Nat × Nat) (l0 : Option Value) (l1 : Option Value) (l2 : Option Value) (l3 : Option Value) (l4 : Option Value) (l5 : Option Value) (l6 : Option Value) (l7 : Option Value) (a0 : Nat) (x0 : Int32) (s : List Value) (h : am_H), am_E P 68 143 [l0, l1, l2, l3, l4, l5, l6, l7] (.int x0 :: .ref a0 :: s) h = (am_p1 h a0 5 4 (.int x0)).bind (fun h => am_E P 68 146 [l0, l1, l2, l3, l4, l5, l6, l7] s h)) ∧
  (∀ (P : Nat × Nat) (l0 : Option Value) (l1 : Option Value) (l2 : Option Value) (l4 : Option Value) (l5 : Option Value) (l6 : Option Value) (l7 : Option Value) (x0 : Int32) (s : List Value) (h : am_H), am_E P 68 146 [l0, l1, l2, some (.int x0), l4, l5, l6, l7] s h = am_E P 68 147 [l0, l1, l2, some (.int x0), l4, l5, l6, l7] (.int x0 :: s) h) ∧
  (∀ (P : Nat × Nat) (l0 : Option Value) (l1 : Option Value) (l2 : Option Value) (l3 : Option Value) (l4 : Option Value) (l5 : Option Value) (l6 : Option Value) (l7 : Option Value) (x0 : Int32) (h : am_H), am_E P 68 147 [l0, l1, l2, l3, l4, l5, l6, l7] [.int x0] h = some (some (.int x0), h)) :=
  ⟨fun _ _ _ _ _ _ _ _ _ _ _ => er_go rfl rfl,
  fun _ _ _ _ _ _ _ _ _ _ _ _ => er_go rfl rfl,
  fun _ _ _ _ _ _ _ _ _ _ _ => er_go rfl rfl,
  fun _ _ _ _ _ _ _ _ _ _ _ _ => er_go rfl rfl,
  fun _ _ _ _ _ _ _ _ _ _ _ => er_go rfl rfl,
  fun _ _ _ _ _ _ _ _ _ _ => er_go rfl rfl,
  fun _ _ _ _ _ _ _ _ _ _ _ _ => er_get1 rfl,
  fun _ _ _ _ _ _ _ _ _ _ _ _ _ => er_ic_ge rfl,
  fun _ _ _ _ _ _ _ _ _ _ _ => er_go rfl rfl,
  fun _ _ _ _ _ _ _ _ _ _ => er_go rfl rfl,
  fun _ _ _ _ _ _ _ _ _ _ _ => er_callV rfl rfl rfl rfl,
  fun _ _ _ _ _ _ _ _ _ _ _ _ => er_if_ne rfl,
  fun _ _ _ _ _ _ _ _ _ _ _ => er_go rfl rfl,
  fun _ _ _ _ _ _ _ _ _ _ _ => er_ret rfl rfl,
  fun _ _ _ _ _ _ _ _ _ _ _ => er_go rfl rfl,
  fun _ _ _ _ _ _ _ _ _ _ => er_go rfl rfl,
  fun _ _ _ _ _ _ _ _ _ _ _ _ => er_get1 rfl,
  fun _ _ _ _ _ _ _ _ _ _ _ => er_go rfl rfl,
  fun _ _ _ _ _ _ _ _ _ _ => er_go rfl rfl,
  fun _ _ _ _ _ _ _ _ _ _ _ _ => er_get1 rfl,
  fun _ _ _ _ _ _ _ _ _ _ _ => er_go rfl rfl,
  fun _ _ _ _ _ _ _ _ _ _ _ _ _ => er_go rfl rfl,
  fun _ _ _ _ _ _ _ _ _ _ _ => er_go rfl rfl,
  fun _ _ _ _ _ _ _ _ _ _ _ _ _ => er_callV rfl rfl rfl rfl,
  fun _ _ _ _ _ _ _ _ _ _ _ _ => er_go rfl rfl,
  fun _ _ _ _ _ _ _ _ _ _ _ => er_go rfl rfl,
  fun _ _ _ _ _ _ _ _ _ _ => er_go rfl rfl,
  fun _ _ _ _ _ _ _ _ _ _ _ _ => er_get1 rfl,
  fun _ _ _ _ _ _ _ _ _ _ _ => er_go rfl rfl,
  fun _ _ _ _ _ _ _ _ _ _ => er_go rfl rfl,
  fun _ _ _ _ _ _ _ _ _ _ _ _ => er_get1 rfl,
  fun _ _ _ _ _ _ _ _ _ _ _ => er_go rfl rfl,
  fun _ _ _ _ _ _ _ _ _ _ _ _ _ => er_go rfl rfl,
  fun _ _ _ _ _ _ _ _ _ _ _ => er_go rfl rfl,
  fun _ _ _ _ _ _ _ _ _ _ _ _ _ => er_callV rfl rfl rfl rfl,
  fun _ _ _ _ _ _ _ _ _ _ _ _ => er_go rfl rfl,
  fun _ _ _ _ _ _ _ _ _ _ _ => er_go rfl rfl,
  fun _ _ _ _ _ _ _ _ _ _ => er_go rfl rfl,
  fun _ _ _ _ _ _ _ _ _ _ _ _ => er_get1 rfl,
  fun _ _ _ _ _ _ _ _ _ _ _ _ => er_if_ne rfl,
  fun _ _ _ _ _ _ _ _ _ _ _ => er_go rfl rfl,
  fun _ _ _ _ _ _ _ _ _ _ => er_go rfl rfl,
  fun _ _ _ _ _ _ _ _ _ _ _ _ => er_get1 rfl,
  fun _ _ _ _ _ _ _ _ _ _ _ => er_go rfl rfl,
  fun _ _ _ _ _ _ _ _ _ _ _ => er_go rfl rfl,
  fun _ _ _ _ _ _ _ _ _ _ _ => er_go rfl rfl,
  fun _ _ _ _ _ _ _ _ _ _ => er_go rfl rfl,
  fun _ _ _ _ _ _ _ _ _ _ _ _ => er_get1 rfl,
  fun _ _ _ _ _ _ _ _ _ _ _ => er_go rfl rfl,
  fun _ _ _ _ _ _ _ _ _ _ _ _ _ _ _ => er_callV rfl rfl rfl rfl,
  fun _ _ _ _ _ _ _ _ _ _ _ => er_go rfl rfl,
  fun _ _ _ _ _ _ _ _ _ _ _ => er_go rfl rfl,
  fun _ _ _ _ _ _ _ _ _ _ => er_go rfl rfl,
  fun _ _ _ _ _ _ _ _ _ _ _ _ => er_get1 rfl,
  fun _ _ _ _ _ _ _ _ _ _ _ => er_go rfl rfl,
  fun _ _ _ _ _ _ _ _ _ _ _ => er_go rfl rfl,
  fun _ _ _ _ _ _ _ _ _ _ _ => er_go rfl rfl,
  fun _ _ _ _ _ _ _ _ _ _ => er_go rfl rfl,
  fun _ _ _ _ _ _ _ _ _ _ _ _ => er_get1 rfl,
  fun _ _ _ _ _ _ _ _ _ _ _ => er_go rfl rfl,
  fun _ _ _ _ _ _ _ _ _ _ _ _ _ _ _ => er_callV rfl rfl rfl rfl,
  fun _ _ _ _ _ _ _ _ _ _ _ _ => er_go rfl rfl,
  fun _ _ _ _ _ _ _ _ _ _ _ => er_go rfl rfl,
  fun _ _ _ _ _ _ _ _ _ _ _ _ => er_if_eq rfl,
  fun _ _ _ _ _ _ _ _ _ _ _ => er_go rfl rfl,
  fun _ _ _ _ _ _ _ _ _ _ _ => er_go rfl rfl,
  fun _ _ _ _ _ _ _ _ _ _ _ => er_go rfl rfl,
  fun _ _ _ _ _ _ _ _ _ _ _ => er_go rfl rfl,
  fun _ _ _ _ _ _ _ _ _ _ => er_go rfl rfl,
  fun _ _ _ _ _ _ _ _ _ _ _ => er_go rfl rfl,
  fun _ _ _ _ _ _ _ _ _ _ _ => er_go rfl rfl,
  fun _ _ _ _ _ _ _ _ _ _ => er_go rfl rfl,
  fun _ _ _ _ _ _ _ _ _ _ _ _ => er_get1 rfl,
  fun _ _ _ _ _ _ _ _ _ _ _ => er_go rfl rfl,
  fun _ _ _ _ _ _ _ _ _ _ => er_go rfl rfl,
  fun _ _ _ _ _ _ _ _ _ _ _ _ => er_get1 rfl,
  fun _ _ _ _ _ _ _ _ _ _ _ => er_go rfl rfl,
  fun _ _ _ _ _ _ _ _ _ _ _ => er_go rfl rfl,
  fun _ _ _ _ _ _ _ _ _ _ _ _ _ _ _ _ => er_callV rfl rfl rfl rfl,
  fun _ _ _ _ _ _ _ _ _ _ _ _ => er_if_ne rfl,
  fun _ _ _ _ _ _ _ _ _ _ _ => er_go rfl rfl,
  fun _ _ _ _ _ _ _ _ _ _ _ => er_ret rfl rfl,
  fun _ _ _ _ _ _ _ _ _ _ _ => er_go rfl rfl,
  fun _ _ _ _ _ _ _ _ _ _ => er_go rfl rfl,
  fun _ _ _ _ _ _ _ _ _ _ _ => er_go rfl rfl,
  fun _ _ _ _ _ _ _ _ _ _ _ _ _ => er_put1 rfl rfl,
  fun _ _ _ _ _ _ _ _ _ _ _ => er_go rfl rfl,
  fun _ _ _ _ _ _ _ _ _ _ _ => er_ret rfl rfl⟩
theorem hd68_5 : ∀ (P : Nat × Nat) (l0 : Option Value) (l1 : Option Value) (l2 : Option Value) (l3 : Option Value) (l5 : Option Value) (l6 : Option Value) (l7 : Option Value) (x0 : Int32) (s : List Value) (h : am_H), am_E P 68 5 [l0, l1, l2, l3, some (.int x0), l5, l6, l7] s h = am_E P 68 7 [l0, l1, l2, l3, some (.int x0), l5, l6, l7] (.int x0 :: s) h := fun _ _ _ _ _ _ _ _ _ _ _ => er_go rfl rfl
/-- TwoStepOutputs.giveUpFrom(I)I -/
theorem r69 : (∀ (P : Nat × Nat) (l0 : Option Value) (l1 : Option Value) (l2 : Option Value) (l3 : Option Value) (l4 : Option Value) (l5 : Option Value) (s : List Value) (h : am_H), am_E P 69 0 [l0, l1, l2, l3, l4, l5] s h = am_E P 69 1 [l0, l1, l2, l3, l4, l5] (.int 0 :: s) h) ∧
  (∀ (P : Nat × Nat) (l0 : Option Value) (l1 : Option Value) (l2 : Option Value) (l3 : Option Value) (l4 : Option Value) (l5 : Option Value) (x0 : Int32) (s : List Value) (h : am_H), am_E P 69 1 [l0, l1, l2, l3, l4, l5] (.int x0 :: s) h = am_E P 69 2 [l0, l1, some (.int x0), l3, l4, l5] s h) ∧
  (∀ (P : Nat × Nat) (l0 : Option Value) (l1 : Option Value) (l2 : Option Value) (l3 : Option Value) (l4 : Option Value) (l5 : Option Value) (s : List Value) (h : am_H), am_E P 69 2 [l0, l1, l2, l3, l4, l5] s h = am_E P 69 3 [l0, l1, l2, l3, l4, l5] (.int 0 :: s) h) ∧
  (∀ (P : Nat × Nat) (l0 : Option Value) (l1 : Option Value) (l2 : Option Value) (l3 : Option Value) (l4 : Option Value) (l5 : Option Value) (x0 : Int32) (s : List Value) (h : am_H), am_E P 69 3 [l0, l1, l2, l3, l4, l5] (.int x0 :: s) h = am_E P 69 4 [l0, l1, l2, some (.int x0), l4, l5] s h) ∧
  (∀ (P : Nat × Nat) (l1 : Option Value) (l2 : Option Value) (l3 : Option Value) (l4 : Option Value) (l5 : Option Value) (a0 : Nat) (s : List Value) (h : am_H), am_E P 69 5 [some (.ref a0), l1, l2, l3, l4, l5] s h = am_E P 69 6 [some (.ref a0), l1, l2, l3, l4, l5] (.ref a0 :: s) h) ∧
  (∀ (P : Nat × Nat) (l1 : Option Value) (l2 : Option Value) (l3 : Option Value) (l4 : Option Value) (l5 : Option Value) (s : List Value) (h : am_H), am_E P 69 5 [some .null, l1, l2, l3, l4, l5] s h = am_E P 69 6 [some .null, l1, l2, l3, l4, l5] (.null :: s) h) ∧
  (∀ (P : Nat × Nat) (l0 : Option Value) (l1 : Option Value) (l2 : Option Value) (l3 : Option Value) (l4 : Option Value) (l5 : Option Value) (a0 : Nat) (s : List Value) (h : am_H), am_E P 69 6 [l0, l1, l2, l3, l4, l5] (.ref a0 :: s) h = (am_g1 h a0 8 0).bind (fun v => am_E P 69 9 [l0, l1, l2, l3, l4, l5] (v :: s) h)) ∧
  (∀ (P : Nat × Nat) (l0 : Option Value) (l1 : Option Value) (l2 : Option Value) (l3 : Option Value) (l4 : Option Value) (l5 : Option Value) (a0 : Nat) (v0 : Value) (h : am_H), am_E P 69 9 [l0, l1, l2, l3, l4, l5] [.ref a0, v0] h = if am_cls h a0 = some 0 then (am_E P 118 0 [some (.ref a0)] [] h).bind (fun q => am_E P 69 12 [l0, l1, l2, l3, l4, l5] (q.1.toList ++ [v0]) q.2) else none) ∧
  (∀ (P : Nat × Nat) (l0 : Option Value) (l1 : Option Value) (l2 : Option Value) (l3 : Option Value) (l4 : Option Value) (l5 : Option Value) (x0 : Int32) (x1 : Int32) (s : List Value) (h : am_H), am_E P 69 12 [l0, l1, l2, l3, l4, l5] (.int x1 :: .int x0 :: s) h = if x1 ≤ x0 then am_E P 69 70 [l0, l1, l2, l3, l4, l5] s h else am_E P 69 15 [l0, l1, l2, l3, l4, l5] s h) ∧
  (∀ (P : Nat × Nat) (l1 : Option Value) (l2 : Option Value) (l3 : Option Value) (l4 : Option Value) (l5 : Option Value) (a0 : Nat) (s : List Value) (h : am_H), am_E P 69 15 [some (.ref a0), l1, l2, l3, l4, l5] s h = am_E P 69 16 [some (.ref a0), l1, l2, l3, l4, l5] (.ref a0 :: s) h) ∧
  (∀ (P : Nat × Nat) (l1 : Option Value) (l2 : Option Value) (l3 : Option Value) (l4 : Option Value) (l5 : Option Value) (s : List Value) (h : am_H), am_E P 69 15 [some .null, l1, l2, l3, l4, l5] s h = am_E P 69 16 [some .null, l1, l2, l3, l4, l5] (.null :: s) h) ∧
  (∀ (P : Nat × Nat) (l0 : Option Value) (l1 : Option Value) (l2 : Option Value) (l3 : Option Value) (l4 : Option Value) (l5 : Option Value) (a0 : Nat) (s : List Value) (h : am_H), am_E P 69 16 [l0, l1, l2, l3, l4, l5] (.ref a0 :: s) h = (am_g1 h a0 8 0).bind (fun v => am_E P 69 19 [l0, l1, l2, l3, l4, l5] (v :: s) h)) ∧
  (∀ (P : Nat × Nat) (l0 : Option Value) (l1 : Option Value) (l2 : Option Value) (l4 : Option Value) (l5 : Option Value) (x0 : Int32) (s : List Value) (h : am_H), am_E P 69 19 [l0, l1, l2, some (.int x0), l4, l5] s h = am_E P 69 20 [l0, l1, l2, some (.int x0), l4, l5] (.int x0 :: s) h) ∧
  (∀ (P : Nat × Nat) (l0 : Option Value) (l1 : Option Value) (l2 : Option Value) (l3 : Option Value) (l4 : Option Value) (l5 : Option Value) (a0 : Nat) (x0 : Int32) (h : am_H), am_E P 69 20 [l0, l1, l2, l3, l4, l5] [.int x0, .ref a0] h = if am_cls h a0 = some 0 then (am_E P 120 0 [some (.ref a0), some (.int x0)] [] h).bind (fun q => am_E P 69 23 [l0, l1, l2, l3, l4, l5] (q.1.toList ++ []) q.2) else none) ∧
  (∀ (P : Nat × Nat) (l0 : Option Value) (l1 : Option Value) (l2 : Option Value) (l3 : Option Value) (l4 : Option Value) (l5 : Option Value) (a0 : Nat) (s : List Value) (h : am_H), am_E P 69 23 [l0, l1, l2, l3, l4, l5] (.ref a0 :: s) h = if am_cls h a0 = some 4 then am_E P 69 26 [l0, l1, l2, l3, l4, l5] (.ref a0 :: s) h else none) ∧
  (∀ (P : Nat × Nat) (l0 : Option Value) (l1 : Option Value) (l2 : Option Value) (l3 : Option Value) (l4 : Option Value) (l5 : Option Value) (s : List Value) (h : am_H), am_E P 69 23 [l0, l1, l2, l3, l4, l5] (.null :: s) h = am_E P 69 26 [l0, l1, l2, l3, l4, l5] (.null :: s) h) ∧
  (∀ (P : Nat × Nat) (l0 : Option Value) (l1 : Option Value) (l2 : Option Value) (l3 : Option Value) (l4 : Option Value) (l5 : Option Value) (a0 : Nat) (s : List Value) (h : am_H), am_E P 69 26 [l0, l1, l2, l3, l4, l5] (.ref a0 :: s) h = am_E P 69 28 [l0, l1, l2, l3, some (.ref a0), l5] s h) ∧
  (∀ (P : Nat × Nat) (l0 : Option Value) (l1 : Option Value) (l2 : Option Value) (l3 : Option Value) (l4 : Option Value) (l5 : Option Value) (s : List Value) (h : am_H), am_E P 69 26 [l0, l1, l2, l3, l4, l5] (.null :: s) h = am_E P 69 28 [l0, l1, l2, l3, some .null, l5] s h) ∧
  (∀ (P : Nat × Nat) (l1 : Option Value) (l2 : Option Value) (l3 : Option Value) (l4 : Option Value) (l5 : Option Value) (a0 : Nat) (s : List Value) (h : am_H), am_E P 69 28 [some (.ref a0), l1, l2, l3, l4, l5] s h = am_E P 69 29 [some (.ref a0), l1, l2, l3, l4, l5] (.ref a0 :: s) h) ∧
  (∀ (P : Nat × Nat) (l1 : Option Value) (l2 : Option Value) (l3 : Option Value) (l4 : Option Value) (l5 : Option Value) (s : List Value) (h : am_H), am_E P 69 28 [some .null, l1, l2, l3, l4, l5] s h = am_E P 69 29 [some .null, l1, l2, l3, l4, l5] (.null :: s) h) ∧
  (∀ (P : Nat × Nat) (l0 : Option Value) (l1 : Option Value) (l2 : Option Value) (l3 : Option Value) (l5 : Option Value) (a0 : Nat) (s : List Value) (h : am_H), am_E P 69 29 [l0, l1, l2, l3, some (.ref a0), l5] s h = am_E P 69 31 [l0, l1, l2, l3, some (.ref a0), l5] (.ref a0 :: s) h) ∧
  (∀ (P : Nat × Nat) (l0 : Option Value) (l1 : Option Value) (l2 : Option Value) (l3 : Option Value) (l5 : Option Value) (s : List Value) (h : am_H), am_E P 69 29 [l0, l1, l2, l3, some .null, l5] s h = am_E P 69 31 [l0, l1, l2, l3, some .null, l5] (.null :: s) h) ∧
  (∀ (P : Nat × Nat) (l0 : Option Value) (l2 : Option Value) (l3 : Option Value) (l4 : Option Value) (l5 : Option Value) (x0 : Int32) (s : List Value) (h : am_H), am_E P 69 31 [l0, some (.int x0), l2, l3, l4, l5] s h = am_E P 69 32 [l0, some (.int x0), l2, l3, l4, l5] (.int x0 :: s) h) ∧
  (∀ (P : Nat × Nat) (l0 : Option Value) (l1 : Option Value) (l2 : Option Value) (l3 : Option Value) (l4 : Option Value) (l5 : Option Value) (a0 : Nat) (a1 : Nat) (x1 : Int32) (h : am_H), am_E P 69 32 [l0, l1, l2, l3, l4, l5] [.int x1, .ref a1, .ref a0] h = if am_cls h a0 = some 8 then (am_E P 70 0 [some (.ref a0), some (.ref a1), some (.int x1), none, none, none] [] h).bind (fun q => am_E P 69 35 [l0, l1, l2, l3, l4, l5] (q.1.toList ++ []) q.2) else none) ∧
  (∀ (P : Nat × Nat) (l0 : Option Value) (l1 : Option Value) (l2 : Option Value) (l3 : Option Value) (l4 : Option Value) (l5 : Option Value) (x0 : Int32) (s : List Value) (h : am_H), am_E P 69 35 [l0, l1, l2, l3, l4, l5] (.int x0 :: s) h = am_E P 69 37 [l0, l1, l2, l3, l4, some (.int x0)] s h) ∧
  (∀ (P : Nat × Nat) (l0 : Option Value) (l1 : Option Value) (l2 : Option Value) (l3 : Option Value) (l4 : Option Value) (x0 : Int32) (s : List Value) (h : am_H), am_E P 69 37 [l0, l1, l2, l3, l4, some (.int x0)] s h = am_E P 69 39 [l0, l1, l2, l3, l4, some (.int x0)] (.int x0 :: s) h) ∧
  (∀ (P : Nat × Nat) (l0 : Option Value) (l1 : Option Value) (l2 : Option Value) (l3 : Option Value) (l4 : Option Value) (l5 : Option Value) (s : List Value) (h : am_H), am_E P 69 39 [l0, l1, l2, l3, l4, l5] s h = am_E P 69 41 [l0, l1, l2, l3, l4, l5] (.int (-5) :: s) h) ∧
  (∀ (P : Nat × Nat) (l0 : Option Value) (l1 : Option Value) (l2 : Option Value) (l3 : Option Value) (l4 : Option Value) (l5 : Option Value) (x0 : Int32) (x1 : Int32) (s : List Value) (h : am_H), am_E P 69 41 [l0, l1, l2, l3, l4, l5] (.int x1 :: .int x0 :: s) h = if x0 = x1 then am_E P 69 44 [l0, l1, l2, l3, l4, l5] s h else am_E P 69 47 [l0, l1, l2, l3, l4, l5] s h) ∧
  (∀ (P : Nat × Nat) (l0 : Option Value) (l1 : Option Value) (l2 : Option Value) (l3 : Option Value) (l4 : Option Value) (l5 : Option Value) (s : List Value) (h : am_H), am_E P 69 44 [l0, l1, l2, l3, l4, l5] s h = am_E P 69 46 [l0, l1, l2, l3, l4, l5] (.int (-5) :: s) h) ∧
  (∀ (P : Nat × Nat) (l0 : Option Value) (l1 : Option Value) (l2 : Option Value) (l3 : Option Value) (l4 : Option Value) (l5 : Option Value) (x0 : Int32) (h : am_H), am_E P 69 46 [l0, l1, l2, l3, l4, l5] [.int x0] h = some (some (.int x0), h)) ∧
  (∀ (P : Nat × Nat) (l0 : Option Value) (l1 : Option Value) (l3 : Option Value) (l4 : Option Value) (l5 : Option Value) (x0 : Int32) (s : List Value) (h : am_H), am_E P 69 47 [l0, l1, some (.int x0), l3, l4, l5] s h = am_E P 69 48 [l0, l1, some (.int x0), l3, l4, l5] (.int x0 :: s) h) ∧
  (∀ (P : Nat × Nat) (l0 : Option Value) (l1 : Option Value) (l2 : Option Value) (l3 : Option Value) (l4 : Option Value) (x0 : Int32) (s : List Value) (h : am_H), am_E P 69 48 [l0, l1, l2, l3, l4, some (.int x0)] s h = am_E P 69 50 [l0, l1, l2, l3, l4, some (.int x0)] (.int x0 :: s) h) ∧
  (∀ (P : Nat × Nat) (l0 : Option Value) (l1 : Option Value) (l2 : Option Value) (l3 : Option Value) (l5 : Option Value) (a0 : Nat) (s : List Value) (h : am_H), am_E P 69 50 [l0, l1, l2, l3, some (.ref a0), l5] s h = am_E P 69 52 [l0, l1, l2, l3, some (.ref a0), l5] (.ref a0 :: s) h) ∧
  (∀ (P : Nat × Nat) (l0 : Option Value) (l1 : Option Value) (l2 : Option Value) (l3 : Option Value) (l5 : Option Value) (s : List Value) (h : am_H), am_E P 69 50 [l0, l1, l2, l3, some .null, l5] s h = am_E P 69 52 [l0, l1, l2, l3, some .null, l5] (.null :: s) h) ∧
  (∀ (P : Nat × Nat) (l0 : Option Value) (l1 : Option Value) (l2 : Option Value) (l3 : Option Value) (l4 : Option Value) (l5 : Option Value) (a0 : Nat) (s : List Value) (h : am_H), am_E P 69 52 [l0, l1, l2, l3, l4, l5] (.ref a0 :: s) h = (am_g1 h a0 4 4).bind (fun v => am_E P 69 55 [l0, l1, l2, l3, l4, l5] (v :: s) h)) ∧
  (∀ (P : Nat × Nat) (l0 : Option Value) (l1 : Option Value) (l2 : Option Value) (l3 : Option Value) (l4 : Option Value) (l5 : Option Value) (x0 : Int32) (x1 : Int32) (s : List Value) (h : am_H), am_E P 69 55 [l0, l1, l2, l3, l4, l5] (.int x1 :: .int x0 :: s) h = am_E P 69 56 [l0, l1, l2, l3, l4, l5] (.int (x0 + x1) :: s) h) ∧
  (∀ (P : Nat × Nat) (l0 : Option Value) (l1 : Option Value) (l2 : Option Value) (l3 : Option Value) (l4 : Option Value) (l5 : Option Value) (x0 : Int32) (x1 : Int32) (s : List Value) (h : am_H), am_E P 69 56 [l0, l1, l2, l3, l4, l5] (.int x1 :: .int x0 :: s) h = am_E P 69 57 [l0, l1, l2, l3, l4, l5] (.int (x0 + x1) :: s) h) ∧
  (∀ (P : Nat × Nat) (l0 : Option Value) (l1 : Option Value) (l2 : Option Value) (l3 : Option Value) (l4 : Option Value) (l5 : Option Value) (x0 : Int32) (s : List Value) (h : am_H), am_E P 69 57 [l0, l1, l2, l3, l4, l5] (.int x0 :: s) h = am_E P 69 58 [l0, l1, some (.int x0), l3, l4, l5] s h) ∧
  (∀ (P : Nat × Nat) (l0 : Option Value) (l1 : Option Value) (l2 : Option Value) (l3 : Option Value) (l5 : Option Value) (a0 : Nat) (s : List Value) (h : am_H), am_E P 69 58 [l0, l1, l2, l3, some (.ref a0), l5] s h = am_E P 69 60 [l0, l1, l2, l3, some (.ref a0), l5] (.ref a0 :: s) h) ∧
  (∀ (P : Nat × Nat) (l0 : Option Value) (l1 : Option Value) (l2 : Option Value) (l3 : Option Value) (l5 : Option Value) (s : List Value) (h : am_H), am_E P 69 58 [l0, l1, l2, l3, some .null, l5] s h = am_E P 69 60 [l0, l1, l2, l3, some .null, l5] (.null :: s) h) ∧
  (∀ (P : Nat × Nat) (l0 : Option Value) (l1 : Option Value) (l2 : Option Value) (l3 : Option Value) (l4 : Option Value) (l5 : Option Value) (s : List Value) (h : am_H), am_E P 69 60 [l0, l1, l2, l3, l4, l5] s h = am_E P 69 61 [l0, l1, l2, l3, l4, l5] (.int 0 :: s) h) ∧
  (∀ (P : Nat × Nat) (l0 : Option Value) (l1 : Option Value) (l2 : Option Value) (l3 : Option Value) (l4 : Option Value) (l5 : Option Value) (a0 : Nat) (x0 : Int32) (s : List Value) (h : am_H), am_E P 69 61 [l0, l1, l2, l3, l4, l5] (.int x0 :: .ref a0 :: s) h = (am_p1 h a0 4 4 (.int x0)).bind (fun h => am_E P 69 64 [l0, l1, l2, l3, l4, l5] s h)) ∧
  (∀ (P : Nat × Nat) (l0 : Option Value) (l1 : Option Value) (l2 : Option Value) (l4 : Option Value) (l5 : Option Value) (x0 : Int32) (s : List Value) (h : am_H), am_E P 69 64 [l0, l1, l2, some (.int x0), l4, l5] s h = am_E P 69 67 [l0, l1, l2, some (.int (x0 + 1)), l4, l5] s h) ∧
  (∀ (P : Nat × Nat) (l0 : Option Value) (l1 : Option Value) (l2 : Option Value) (l3 : Option Value) (l4 : Option Value) (l5 : Option Value) (s : List Value) (h : am_H), am_E P 69 67 [l0, l1, l2, l3, l4, l5] s h = am_E P 69 4 [l0, l1, l2, l3, l4, l5] s h) ∧
  (∀ (P : Nat × Nat) (l0 : Option Value) (l1 : Option Value) (l3 : Option Value) (l4 : Option Value) (l5 : Option Value) (x0 : Int32) (s : List Value) (h : am_H), am_E P 69 70 [l0, l1, some (.int x0), l3, l4, l5] s h = am_E P 69 71 [l0, l1, some (.int x0), l3, l4, l5] (.int x0 :: s) h) ∧
  (∀ (P : Nat × Nat) (l0 : Option Value) (l1 : Option Value) (l2 : Option Value) (l3 : Option Value) (l4 : Option Value) (l5 : Option Value) (x0 : Int32) (h : am_H), am_E P 69 71 [l0, l1, l2, l3, l4, l5] [.int x0] h = some (some (.int x0), h)) :=
  ⟨fun _ _ _ _ _ _ _ _ _ => er_go rfl rfl,
  fun _ _ _ _ _ _ _ _ _ _ => er_go rfl rfl,
  fun _ _ _ _ _ _ _ _ _ => er_go rfl rfl,
  fun _ _ _ _ _ _ _ _ _ _ => er_go rfl rfl,
  fun _ _ _ _ _ _ _ _ _ => er_go rfl rfl,
  fun _ _ _ _ _ _ _ _ => er_go rfl rfl,
  fun _ _ _ _ _ _ _ _ _ _ => er_get1 rfl,
  fun _ _ _ _ _ _ _ _ _ _ => er_callV rfl rfl rfl rfl,
  fun _ _ _ _ _ _ _ _ _ _ _ => er_ic_ge rfl,
  fun _ _ _ _ _ _ _ _ _ => er_go rfl rfl,
  fun _ _ _ _ _ _ _ _ => er_go rfl rfl,
  fun _ _ _ _ _ _ _ _ _ _ => er_get1 rfl,
  fun _ _ _ _ _ _ _ _ _ => er_go rfl rfl,
  fun _ _ _ _ _ _ _ _ _ _ => er_callV rfl rfl rfl rfl,
  fun _ _ _ _ _ _ _ _ _ _ => er_cast rfl,
  fun _ _ _ _ _ _ _ _ _ => er_go rfl rfl,
  fun _ _ _ _ _ _ _ _ _ _ => er_go rfl rfl,
  fun _ _ _ _ _ _ _ _ _ => er_go rfl rfl,
  fun _ _ _ _ _ _ _ _ _ => er_go rfl rfl,
  fun _ _ _ _ _ _ _ _ => er_go rfl rfl,
  fun _ _ _ _ _ _ _ _ _ => er_go rfl rfl,
  fun _ _ _ _ _ _ _ _ => er_go rfl rfl,
  fun _ _ _ _ _ _ _ _ _ => er_go rfl rfl,
  fun _ _ _ _ _ _ _ _ _ _ _ => er_callV rfl rfl rfl rfl,
  fun _ _ _ _ _ _ _ _ _ _ => er_go rfl rfl,
  fun _ _ _ _ _ _ _ _ _ => er_go rfl rfl,
  fun _ _ _ _ _ _ _ _ _ => er_go rfl rfl,
  fun _ _ _ _ _ _ _ _ _ _ _ => er_ic_ne rfl,
  fun _ _ _ _ _ _ _ _ _ => er_go rfl rfl,
  fun _ _ _ _ _ _ _ _ _ => er_ret rfl rfl,
  fun _ _ _ _ _ _ _ _ _ => er_go rfl rfl,
  fun _ _ _ _ _ _ _ _ _ => er_go rfl rfl,
  fun _ _ _ _ _ _ _ _ _ => er_go rfl rfl,
  fun _ _ _ _ _ _ _ _ => er_go rfl rfl,
  fun _ _ _ _ _ _ _ _ _ _ => er_get1 rfl,
  fun _ _ _ _ _ _ _ _ _ _ _ => er_go rfl rfl,
  fun _ _ _ _ _ _ _ _ _ _ _ => er_go rfl rfl,
  fun _ _ _ _ _ _ _ _ _ _ => er_go rfl rfl,
  fun _ _ _ _ _ _ _ _ _ => er_go rfl rfl,
  fun _ _ _ _ _ _ _ _ => er_go rfl rfl,
  fun _ _ _ _ _ _ _ _ _ => er_go rfl rfl,
  fun _ _ _ _ _ _ _ _ _ _ _ => er_put1 rfl rfl,
  fun _ _ _ _ _ _ _ _ _ => er_go rfl rfl,
  fun _ _ _ _ _ _ _ _ _ => er_go rfl rfl,
  fun _ _ _ _ _ _ _ _ _ => er_go rfl rfl,
  fun _ _ _ _ _ _ _ _ _ => er_ret rfl rfl⟩
theorem hd69_4 : ∀ (P : Nat × Nat) (l0 : Option Value) (l1 : Option Value) (l2 : Option Value) (l4 : Option Value) (l5 : Option Value) (x0 : Int32) (s : List Value) (h : am_H), am_E P 69 4 [l0, l1, l2, some (.int x0), l4, l5] s h = am_E P 69 5 [l0, l1, l2, some (.int x0), l4, l5] (.int x0 :: s) h := fun _ _ _ _ _ _ _ _ _ => er_go rfl rfl
/-- TwoStepOutputs.giveUpParts(LTwoStepOutputs$Output;I)I -/
theorem r70 : (∀ (P : Nat × Nat) (l0 : Option Value) (l1 : Option Value) (l2 : Option Value) (l3 : Option Value) (l4 : Option Value) (l5 : Option Value) (s : List Value) (h : am_H), am_E P 70 0 [l0, l1, l2, l3, l4, l5] s h = am_E P 70 1 [l0, l1, l2, l3, l4, l5] (.int 0 :: s) h) ∧
  (∀ (P : Nat × Nat) (l0 : Option Value) (l1 : Option Value) (l2 : Option Value) (l3 : Option Value) (l4 : Option Value) (l5 : Option Value) (x0 : Int32) (s : List Value) (h : am_H), am_E P 70 1 [l0, l1, l2, l3, l4, l5] (.int x0 :: s) h = am_E P 70 2 [l0, l1, l2, some (.int x0), l4, l5] s h) ∧
  (∀ (P : Nat × Nat) (l0 : Option Value) (l1 : Option Value) (l2 : Option Value) (l3 : Option Value) (l4 : Option Value) (l5 : Option Value) (s : List Value) (h : am_H), am_E P 70 2 [l0, l1, l2, l3, l4, l5] s h = am_E P 70 3 [l0, l1, l2, l3, l4, l5] (.int 0 :: s) h) ∧
  (∀ (P : Nat × Nat) (l0 : Option Value) (l1 : Option Value) (l2 : Option Value) (l3 : Option Value) (l4 : Option Value) (l5 : Option Value) (x0 : Int32) (s : List Value) (h : am_H), am_E P 70 3 [l0, l1, l2, l3, l4, l5] (.int x0 :: s) h = am_E P 70 5 [l0, l1, l2, l3, some (.int x0), l5] s h) ∧
  (∀ (P : Nat × Nat) (l0 : Option Value) (l2 : Option Value) (l3 : Option Value) (l4 : Option Value) (l5 : Option Value) (a0 : Nat) (s : List Value) (h : am_H), am_E P 70 7 [l0, some (.ref a0), l2, l3, l4, l5] s h = am_E P 70 8 [l0, some (.ref a0), l2, l3, l4, l5] (.ref a0 :: s) h) ∧
  (∀ (P : Nat × Nat) (l0 : Option Value) (l2 : Option Value) (l3 : Option Value) (l4 : Option Value) (l5 : Option Value) (s : List Value) (h : am_H), am_E P 70 7 [l0, some .null, l2, l3, l4, l5] s h = am_E P 70 8 [l0, some .null, l2, l3, l4, l5] (.null :: s) h) ∧
  (∀ (P : Nat × Nat) (l0 : Option Value) (l1 : Option Value) (l2 : Option Value) (l3 : Option Value) (l4 : Option Value) (l5 : Option Value) (a0 : Nat) (s : List Value) (h : am_H), am_E P 70 8 [l0, l1, l2, l3, l4, l5] (.ref a0 :: s) h = (am_g1 h a0 4 5).bind (fun v => am_E P 70 11 [l0, l1, l2, l3, l4, l5] (v :: s) h)) ∧
  (∀ (P : Nat × Nat) (l0 : Option Value) (l1 : Option Value) (l2 : Option Value) (l3 : Option Value) (l4 : Option Value) (l5 : Option Value) (a0 : Nat) (v0 : Value) (h : am_H), am_E P 70 11 [l0, l1, l2, l3, l4, l5] [.ref a0, v0] h = if am_cls h a0 = some 0 then (am_E P 118 0 [some (.ref a0)] [] h).bind (fun q => am_E P 70 14 [l0, l1, l2, l3, l4, l5] (q.1.toList ++ [v0]) q.2) else none) ∧
  (∀ (P : Nat × Nat) (l0 : Option Value) (l1 : Option Value) (l2 : Option Value) (l3 : Option Value) (l4 : Option Value) (l5 : Option Value) (x0 : Int32) (x1 : Int32) (s : List Value) (h : am_H), am_E P 70 14 [l0, l1, l2, l3, l4, l5] (.int x1 :: .int x0 :: s) h = if x1 ≤ x0 then am_E P 70 96 [l0, l1, l2, l3, l4, l5] s h else am_E P 70 17 [l0, l1, l2, l3, l4, l5] s h) ∧
  (∀ (P : Nat × Nat) (l0 : Option Value) (l2 : Option Value) (l3 : Option Value) (l4 : Option Value) (l5 : Option Value) (a0 : Nat) (s : List Value) (h : am_H), am_E P 70 17 [l0, some (.ref a0), l2, l3, l4, l5] s h = am_E P 70 18 [l0, some (.ref a0), l2, l3, l4, l5] (.ref a0 :: s) h) ∧
  (∀ (P : Nat × Nat) (l0 : Option Value) (l2 : Option Value) (l3 : Option Value) (l4 : Option Value) (l5 : Option Value) (s : List Value) (h : am_H), am_E P 70 17 [l0, some .null, l2, l3, l4, l5] s h = am_E P 70 18 [l0, some .null, l2, l3, l4, l5] (.null :: s) h) ∧
  (∀ (P : Nat × Nat) (l0 : Option Value) (l1 : Option Value) (l2 : Option Value) (l3 : Option Value) (l4 : Option Value) (l5 : Option Value) (a0 : Nat) (s : List Value) (h : am_H), am_E P 70 18 [l0, l1, l2, l3, l4, l5] (.ref a0 :: s) h = (am_g1 h a0 4 5).bind (fun v => am_E P 70 21 [l0, l1, l2, l3, l4, l5] (v :: s) h)) ∧
  (∀ (P : Nat × Nat) (l0 : Option Value) (l1 : Option Value) (l2 : Option Value) (l3 : Option Value) (l5 : Option Value) (x0 : Int32) (s : List Value) (h : am_H), am_E P 70 21 [l0, l1, l2, l3, some (.int x0), l5] s h = am_E P 70 23 [l0, l1, l2, l3, some (.int x0), l5] (.int x0 :: s) h) ∧
  (∀ (P : Nat × Nat) (l0 : Option Value) (l1 : Option Value) (l2 : Option Value) (l3 : Option Value) (l4 : Option Value) (l5 : Option Value) (a0 : Nat) (x0 : Int32) (h : am_H), am_E P 70 23 [l0, l1, l2, l3, l4, l5] [.int x0, .ref a0] h = if am_cls h a0 = some 0 then (am_E P 120 0 [some (.ref a0), some (.int x0)] [] h).bind (fun q => am_E P 70 26 [l0, l1, l2, l3, l4, l5] (q.1.toList ++ []) q.2) else none) ∧
  (∀ (P : Nat × Nat) (l0 : Option Value) (l1 : Option Value) (l2 : Option Value) (l3 : Option Value) (l4 : Option Value) (l5 : Option Value) (a0 : Nat) (s : List Value) (h : am_H), am_E P 70 26 [l0, l1, l2, l3, l4, l5] (.ref a0 :: s) h = if am_cls h a0 = some 5 then am_E P 70 29 [l0, l1, l2, l3, l4, l5] (.ref a0 :: s) h else none) ∧
  (∀ (P : Nat × Nat) (l0 : Option Value) (l1 : Option Value) (l2 : Option Value) (l3 : Option Value) (l4 : Option Value) (l5 : Option Value) (s : List Value) (h : am_H), am_E P 70 26 [l0, l1, l2, l3, l4, l5] (.null :: s) h = am_E P 70 29 [l0, l1, l2, l3, l4, l5] (.null :: s) h) ∧
  (∀ (P : Nat × Nat) (l0 : Option Value) (l1 : Option Value) (l2 : Option Value) (l3 : Option Value) (l4 : Option Value) (l5 : Option Value) (a0 : Nat) (s : List Value) (h : am_H), am_E P 70 29 [l0, l1, l2, l3, l4, l5] (.ref a0 :: s) h = am_E P 70 31 [l0, l1, l2, l3, l4, some (.ref a0)] s h) ∧
  (∀ (P : Nat × Nat) (l0 : Option Value) (l1 : Option Value) (l2 : Option Value) (l3 : Option Value) (l4 : Option Value) (l5 : Option Value) (s : List Value) (h : am_H), am_E P 70 29 [l0, l1, l2, l3, l4, l5] (.null :: s) h = am_E P 70 31 [l0, l1, l2, l3, l4, some .null] s h) ∧
  (∀ (P : Nat × Nat) (l0 : Option Value) (l1 : Option Value) (l2 : Option Value) (l3 : Option Value) (l4 : Option Value) (a0 : Nat) (s : List Value) (h : am_H), am_E P 70 31 [l0, l1, l2, l3, l4, some (.ref a0)] s h = am_E P 70 33 [l0, l1, l2, l3, l4, some (.ref a0)] (.ref a0 :: s) h) ∧
  (∀ (P : Nat × Nat) (l0 : Option Value) (l1 : Option Value) (l2 : Option Value) (l3 : Option Value) (l4 : Option Value) (s : List Value) (h : am_H), am_E P 70 31 [l0, l1, l2, l3, l4, some .null] s h = am_E P 70 33 [l0, l1, l2, l3, l4, some .null] (.null :: s) h) ∧
  (∀ (P : Nat × Nat) (l0 : Option Value) (l1 : Option Value) (l2 : Option Value) (l3 : Option Value) (l4 : Option Value) (l5 : Option Value) (a0 : Nat) (s : List Value) (h : am_H), am_E P 70 33 [l0, l1, l2, l3, l4, l5] (.ref a0 :: s) h = (am_g1 h a0 5 4).bind (fun v => am_E P 70 36 [l0, l1, l2, l3, l4, l5] (v :: s) h)) ∧
  (∀ (P : Nat × Nat) (l0 : Option Value) (l1 : Option Value) (l2 : Option Value) (l3 : Option Value) (l4 : Option Value) (l5 : Option Value) (s : List Value) (h : am_H), am_E P 70 36 [l0, l1, l2, l3, l4, l5] s h = am_E P 70 37 [l0, l1, l2, l3, l4, l5] (.int 1 :: s) h) ∧
  (∀ (P : Nat × Nat) (l0 : Option Value) (l1 : Option Value) (l2 : Option Value) (l3 : Option Value) (l4 : Option Value) (l5 : Option Value) (x0 : Int32) (x1 : Int32) (s : List Value) (h : am_H), am_E P 70 37 [l0, l1, l2, l3, l4, l5] (.int x1 :: .int x0 :: s) h = if x0 = x1 then am_E P 70 40 [l0, l1, l2, l3, l4, l5] s h else am_E P 70 90 [l0, l1, l2, l3, l4, l5] s h) ∧
  (∀ (P : Nat × Nat) (l0 : Option Value) (l1 : Option Value) (l2 : Option Value) (l3 : Option Value) (l4 : Option Value) (a0 : Nat) (s : List Value) (h : am_H), am_E P 70 40 [l0, l1, l2, l3, l4, some (.ref a0)] s h = am_E P 70 42 [l0, l1, l2, l3, l4, some (.ref a0)] (.ref a0 :: s) h) ∧
  (∀ (P : Nat × Nat) (l0 : Option Value) (l1 : Option Value) (l2 : Option Value) (l3 : Option Value) (l4 : Option Value) (s : List Value) (h : am_H), am_E P 70 40 [l0, l1, l2, l3, l4, some .null] s h = am_E P 70 42 [l0, l1, l2, l3, l4, some .null] (.null :: s) h) ∧
  (∀ (P : Nat × Nat) (l0 : Option Value) (l1 : Option Value) (l2 : Option Value) (l3 : Option Value) (l4 : Option Value) (l5 : Option Value) (a0 : Nat) (s : List Value) (h : am_H), am_E P 70 42 [l0, l1, l2, l3, l4, l5] (.ref a0 :: s) h = (am_g1 h a0 5 3).bind (fun v => am_E P 70 45 [l0, l1, l2, l3, l4, l5] (v :: s) h)) ∧
  (∀ (P : Nat × Nat) (l0 : Option Value) (l1 : Option Value) (l3 : Option Value) (l4 : Option Value) (l5 : Option Value) (x0 : Int32) (s : List Value) (h : am_H), am_E P 70 45 [l0, l1, some (.int x0), l3, l4, l5] s h = am_E P 70 46 [l0, l1, some (.int x0), l3, l4, l5] (.int x0 :: s) h) ∧
  (∀ (P : Nat × Nat) (l0 : Option Value) (l1 : Option Value) (l2 : Option Value) (l3 : Option Value) (l4 : Option Value) (l5 : Option Value) (x0 : Int32) (x1 : Int32) (s : List Value) (h : am_H), am_E P 70 46 [l0, l1, l2, l3, l4, l5] (.int x1 :: .int x0 :: s) h = if x1 ≤ x0 then am_E P 70 52 [l0, l1, l2, l3, l4, l5] s h else am_E P 70 49 [l0, l1, l2, l3, l4, l5] s h) ∧
  (∀ (P : Nat × Nat) (l0 : Option Value) (l1 : Option Value) (l2 : Option Value) (l3 : Option Value) (l4 : Option Value) (l5 : Option Value) (s : List Value) (h : am_H), am_E P 70 49 [l0, l1, l2, l3, l4, l5] s h = am_E P 70 90 [l0, l1, l2, l3, l4, l5] s h) ∧
  (∀ (P : Nat × Nat) (l1 : Option Value) (l2 : Option Value) (l3 : Option Value) (l4 : Option Value) (l5 : Option Value) (a0 : Nat) (s : List Value) (h : am_H), am_E P 70 52 [some (.ref a0), l1, l2, l3, l4, l5] s h = am_E P 70 53 [some (.ref a0), l1, l2, l3, l4, l5] (.ref a0 :: s) h) ∧
  (∀ (P : Nat × Nat) (l1 : Option Value) (l2 : Option Value) (l3 : Option Value) (l4 : Option Value) (l5 : Option Value) (s : List Value) (h : am_H), am_E P 70 52 [some .null, l1, l2, l3, l4, l5] s h = am_E P 70 53 [some .null, l1, l2, l3, l4, l5] (.null :: s) h) ∧
  (∀ (P : Nat × Nat) (l0 : Option Value) (l1 : Option Value) (l2 : Option Value) (l3 : Option Value) (l4 : Option Value) (l5 : Option Value) (s : List Value) (h : am_H), am_E P 70 53 [l0, l1, l2, l3, l4, l5] s h = am_E P 70 54 [l0, l1, l2, l3, l4, l5] (.int 4 :: s) h) ∧
  (∀ (P : Nat × Nat) (l0 : Option Value) (l2 : Option Value) (l3 : Option Value) (l4 : Option Value) (l5 : Option Value) (a0 : Nat) (s : List Value) (h : am_H), am_E P 70 54 [l0, some (.ref a0), l2, l3, l4, l5] s h = am_E P 70 55 [l0, some (.ref a0), l2, l3, l4, l5] (.ref a0 :: s) h) ∧
  (∀ (P : Nat × Nat) (l0 : Option Value) (l2 : Option Value) (l3 : Option Value) (l4 : Option Value) (l5 : Option Value) (s : List Value) (h : am_H), am_E P 70 54 [l0, some .null, l2, l3, l4, l5] s h = am_E P 70 55 [l0, some .null, l2, l3, l4, l5] (.null :: s) h) ∧
  (∀ (P : Nat × Nat) (l0 : Option Value) (l1 : Option Value) (l2 : Option Value) (l3 : Option Value) (l4 : Option Value) (l5 : Option Value) (a0 : Nat) (s : List Value) (h : am_H), am_E P 70 55 [l0, l1, l2, l3, l4, l5] (.ref a0 :: s) h = (am_g1 h a0 4 0).bind (fun v => am_E P 70 58 [l0, l1, l2, l3, l4, l5] (v :: s) h)) ∧
  (∀ (P : Nat × Nat) (l0 : Option Value) (l1 : Option Value) (l2 : Option Value) (l3 : Option Value) (l4 : Option Value) (a0 : Nat) (s : List Value) (h : am_H), am_E P 70 58 [l0, l1, l2, l3, l4, some (.ref a0)] s h = am_E P 70 60 [l0, l1, l2, l3, l4, some (.ref a0)] (.ref a0 :: s) h) ∧
  (∀ (P : Nat × Nat) (l0 : Option Value) (l1 : Option Value) (l2 : Option Value) (l3 : Option Value) (l4 : Option Value) (s : List Value) (h : am_H), am_E P 70 58 [l0, l1, l2, l3, l4, some .null] s h = am_E P 70 60 [l0, l1, l2, l3, l4, some .null] (.null :: s) h) ∧
  (∀ (P : Nat × Nat) (l0 : Option Value) (l1 : Option Value) (l2 : Option Value) (l3 : Option Value) (l4 : Option Value) (l5 : Option Value) (a0 : Nat) (s : List Value) (h : am_H), am_E P 70 60 [l0, l1, l2, l3, l4, l5] (.ref a0 :: s) h = (am_g1 h a0 5 0).bind (fun v => am_E P 70 63 [l0, l1, l2, l3, l4, l5] (v :: s) h)) ∧
  (∀ (P : Nat × Nat) (l0 : Option Value) (l1 : Option Value) (l2 : Option Value) (l3 : Option Value) (l4 : Option Value) (l5 : Option Value) (s : List Value) (h : am_H), am_E P 70 63 [l0, l1, l2, l3, l4, l5] s h = am_E P 70 65 [l0, l1, l2, l3, l4, l5] (.int (-6) :: s) h) ∧
  (∀ (P : Nat × Nat) (l0 : Option Value) (l1 : Option Value) (l2 : Option Value) (l3 : Option Value) (l4 : Option Value) (l5 : Option Value) (s : List Value) (h : am_H), am_E P 70 65 [l0, l1, l2, l3, l4, l5] s h = am_E P 70 67 [l0, l1, l2, l3, l4, l5] (.int (-6) :: s) h) ∧
  (∀ (P : Nat × Nat) (l0 : Option Value) (l1 : Option Value) (l2 : Option Value) (l3 : Option Value) (l4 : Option Value) (l5 : Option Value) (a0 : Nat) (x0 : Int32) (x1 : Int32) (x2 : Int32) (x3 : Int32) (x4 : Int32) (h : am_H), am_E P 70 67 [l0, l1, l2, l3, l4, l5] [.int x4, .int x3, .int x2, .int x1, .int x0, .ref a0] h = if am_cls h a0 = some 8 then (am_E P 60 0 [some (.ref a0), some (.int x0), some (.int x1), some (.int x2), some (.int x3), some (.int x4)] [] h).bind (fun q => am_E P 70 70 [l0, l1, l2, l3, l4, l5] (q.1.toList ++ []) q.2) else none) ∧
  (∀ (P : Nat × Nat) (l0 : Option Value) (l1 : Option Value) (l2 : Option Value) (l3 : Option Value) (l4 : Option Value) (l5 : Option Value) (x0 : Int32) (s : List Value) (h : am_H), am_E P 70 70 [l0, l1, l2, l3, l4, l5] (.int x0 :: s) h = if x0 = 0 then am_E P 70 73 [l0, l1, l2, l3, l4, l5] s h else am_E P 70 76 [l0, l1, l2, l3, l4, l5] s h) ∧
  (∀ (P : Nat × Nat) (l0 : Option Value) (l1 : Option Value) (l2 : Option Value) (l3 : Option Value) (l4 : Option Value) (l5 : Option Value) (s : List Value) (h : am_H), am_E P 70 73 [l0, l1, l2, l3, l4, l5] s h = am_E P 70 75 [l0, l1, l2, l3, l4, l5] (.int (-5) :: s) h) ∧
  (∀ (P : Nat × Nat) (l0 : Option Value) (l1 : Option Value) (l2 : Option Value) (l3 : Option Value) (l4 : Option Value) (l5 : Option Value) (x0 : Int32) (h : am_H), am_E P 70 75 [l0, l1, l2, l3, l4, l5] [.int x0] h = some (some (.int x0), h)) ∧
  (∀ (P : Nat × Nat) (l0 : Option Value) (l1 : Option Value) (l2 : Option Value) (l3 : Option Value) (l4 : Option Value) (a0 : Nat) (s : List Value) (h : am_H), am_E P 70 76 [l0, l1, l2, l3, l4, some (.ref a0)] s h = am_E P 70 78 [l0, l1, l2, l3, l4, some (.ref a0)] (.ref a0 :: s) h) ∧
  (∀ (P : Nat × Nat) (l0 : Option Value) (l1 : Option Value) (l2 : Option Value) (l3 : Option Value) (l4 : Option Value) (s : List Value) (h : am_H), am_E P 70 76 [l0, l1, l2, l3, l4, some .null] s h = am_E P 70 78 [l0, l1, l2, l3, l4, some .null] (.null :: s) h) ∧
  (∀ (P : Nat × Nat) (l0 : Option Value) (l1 : Option Value) (l2 : Option Value) (l3 : Option Value) (l4 : Option Value) (l5 : Option Value) (s : List Value) (h : am_H), am_E P 70 78 [l0, l1, l2, l3, l4, l5] s h = am_E P 70 79 [l0, l1, l2, l3, l4, l5] (.int 3 :: s) h) ∧
  (∀ (P : Nat × Nat) (l0 : Option Value) (l1 : Option Value) (l2 : Option Value) (l3 : Option Value) (l4 : Option Value) (l5 : Option Value) (a0 : Nat) (x0 : Int32) (s : List Value) (h : am_H), am_E P 70 79 [l0, l1, l2, l3, l4, l5] (.int x0 :: .ref a0 :: s) h = (am_p1 h a0 5 4 (.int x0)).bind (fun h => am_E P 70 82 [l0, l1, l2, l3, l4, l5] s h)) ∧
  (∀ (P : Nat × Nat) (l0 : Option Value) (l1 : Option Value) (l2 : Option Value) (l4 : Option Value) (l5 : Option Value) (x0 : Int32) (s : List Value) (h : am_H), am_E P 70 82 [l0, l1, l2, some (.int x0), l4, l5] s h = am_E P 70 83 [l0, l1, l2, some (.int x0), l4, l5] (.int x0 :: s) h) ∧
  (∀ (P : Nat × Nat) (l0 : Option Value) (l1 : Option Value) (l2 : Option Value) (l3 : Option Value) (l4 : Option Value) (a0 : Nat) (s : List Value) (h : am_H), am_E P 70 83 [l0, l1, l2, l3, l4, some (.ref a0)] s h = am_E P 70 85 [l0, l1, l2, l3, l4, some (.ref a0)] (.ref a0 :: s) h) ∧
  (∀ (P : Nat × Nat) (l0 : Option Value) (l1 : Option Value) (l2 : Option Value) (l3 : Option Value) (l4 : Option Value) (s : List Value) (h : am_H), am_E P 70 83 [l0, l1, l2, l3, l4, some .null] s h = am_E P 70 85 [l0, l1, l2, l3, l4, some .null] (.null :: s) h) ∧
  (∀ (P : Nat × Nat) (l0 : Option Value) (l1 : Option Value) (l2 : Option Value) (l3 : Option Value) (l4 : Option Value) (l5 : Option Value) (a0 : Nat) (s : List Value) (h : am_H), am_E P 70 85 [l0, l1, l2, l3, l4, l5] (.ref a0 :: s) h = (am_g1 h a0 5 2).bind (fun v => am_E P 70 88 [l0, l1, l2, l3, l4, l5] (v :: s) h)) ∧
  (∀ (P : Nat × Nat) (l0 : Option Value) (l1 : Option Value) (l2 : Option Value) (l3 : Option Value) (l4 : Option Value) (l5 : Option Value) (x0 : Int32) (x1 : Int32) (s : List Value) (h : am_H), am_E P 70 88 [l0, l1, l2, l3, l4, l5] (.int x1 :: .int x0 :: s) h = am_E P 70 89 [l0, l1, l2, l3, l4, l5] (.int (x0 + x1) :: s) h) ∧
  (∀ (P : Nat × Nat) (l0 : Option Value) (l1 : Option Value) (l2 : Option Value) (l3 : Option Value) (l4 : Option Value) (l5 : Option Value) (x0 : Int32) (s : List Value) (h : am_H), am_E P 70 89 [l0, l1, l2, l3, l4, l5] (.int x0 :: s) h = am_E P 70 90 [l0, l1, l2, some (.int x0), l4, l5] s h) ∧
  (∀ (P : Nat × Nat) (l0 : Option Value) (l1 : Option Value) (l2 : Option Value) (l3 : Option Value) (l5 : Option Value) (x0 : Int32) (s : List Value) (h : am_H), am_E P 70 90 [l0, l1, l2, l3, some (.int x0), l5] s h = am_E P 70 93 [l0, l1, l2, l3, some (.int (x0 + 1)), l5] s h) ∧
  (∀ (P : Nat × Nat) (l0 : Option Value) (l1 : Option Value) (l2 : Option Value) (l3 : Option Value) (l4 : Option Value) (l5 : Option Value) (s : List Value) (h : am_H), am_E P 70 93 [l0, l1, l2, l3, l4, l5] s h = am_E P 70 5 [l0, l1, l2, l3, l4, l5] s h) ∧
  (∀ (P : Nat × Nat) (l0 : Option Value) (l1 : Option Value) (l2 : Option Value) (l4 : Option Value) (l5 : Option Value) (x0 : Int32) (s : List Value) (h : am_H), am_E P 70 96 [l0, l1, l2, some (.int x0), l4, l5] s h = am_E P 70 97 [l0, l1, l2, some (.int x0), l4, l5] (.int x0 :: s) h) ∧
  (∀ (P : Nat × Nat) (l0 : Option Value) (l1 : Option Value) (l2 : Option Value) (l3 : Option Value) (l4 : Option Value) (l5 : Option Value) (x0 : Int32) (h : am_H), am_E P 70 97 [l0, l1, l2, l3, l4, l5] [.int x0] h = some (some (.int x0), h)) :=
  ⟨fun _ _ _ _ _ _ _ _ _ => er_go rfl rfl,
  fun _ _ _ _ _ _ _ _ _ _ => er_go rfl rfl,
  fun _ _ _ _ _ _ _ _ _ => er_go rfl rfl,
  fun _ _ _ _ _ _ _ _ _ _ => er_go rfl rfl,
  fun _ _ _ _ _ _ _ _ _ => er_go rfl rfl,
  fun _ _ _ _ _ _ _ _ => er_go rfl rfl,
  fun _ _ _ _ _ _ _ _ _ _ => er_get1 rfl,
  fun _ _ _ _ _ _ _ _ _ _ => er_callV rfl rfl rfl rfl,
  fun _ _ _ _ _ _ _ _ _ _ _ => er_ic_ge rfl,
  fun _ _ _ _ _ _ _ _ _ => er_go rfl rfl,
  fun _ _ _ _ _ _ _ _ => er_go rfl rfl,
  fun _ _ _ _ _ _ _ _ _ _ => er_get1 rfl,
  fun _ _ _ _ _ _ _ _ _ => er_go rfl rfl,
  fun _ _ _ _ _ _ _ _ _ _ => er_callV rfl rfl rfl rfl,
  fun _ _ _ _ _ _ _ _ _ _ => er_cast rfl,
  fun _ _ _ _ _ _ _ _ _ => er_go rfl rfl,
  fun _ _ _ _ _ _ _ _ _ _ => er_go rfl rfl,
  fun _ _ _ _ _ _ _ _ _ => er_go rfl rfl,
  fun _ _ _ _ _ _ _ _ _ => er_go rfl rfl,
  fun _ _ _ _ _ _ _ _ => er_go rfl rfl,
  fun _ _ _ _ _ _ _ _ _ _ => er_get1 rfl,
  fun _ _ _ _ _ _ _ _ _ => er_go rfl rfl,
  fun _ _ _ _ _ _ _ _ _ _ _ => er_ic_ne rfl,
  fun _ _ _ _ _ _ _ _ _ => er_go rfl rfl,
  fun _ _ _ _ _ _ _ _ => er_go rfl rfl,
  fun _ _ _ _ _ _ _ _ _ _ => er_get1 rfl,
  fun _ _ _ _ _ _ _ _ _ => er_go rfl rfl,
  fun _ _ _ _ _ _ _ _ _ _ _ => er_ic_ge rfl,
  fun _ _ _ _ _ _ _ _ _ => er_go rfl rfl,
  fun _ _ _ _ _ _ _ _ _ => er_go rfl rfl,
  fun _ _ _ _ _ _ _ _ => er_go rfl rfl,
  fun _ _ _ _ _ _ _ _ _ => er_go rfl rfl,
  fun _ _ _ _ _ _ _ _ _ => er_go rfl rfl,
  fun _ _ _ _ _ _ _ _ => er_go rfl rfl,
  fun _ _ _ _ _ _ _ _ _ _ => er_get1 rfl,
  fun _ _ _ _ _ _ _ _ _ => er_go rfl rfl,
  fun _ _ _ _ _ _ _ _ => er_go rfl rfl,
  fun _ _ _ _ _ _ _ _ _ _ => er_get1 rfl,
  fun _ _ _ _ _ _ _ _ _ => er_go rfl rfl,
  fun _ _ _ _ _ _ _ _ _ => er_go rfl rfl,
  fun _ _ _ _ _ _ _ _ _ _ _ _ _ _ => er_callV rfl rfl rfl rfl,
  fun _ _ _ _ _ _ _ _ _ _ => er_if_ne rfl,
  fun _ _ _ _ _ _ _ _ _ => er_go rfl rfl,
  fun _ _ _ _ _ _ _ _ _ => er_ret rfl rfl,
  fun _ _ _ _ _ _ _ _ _ => er_go rfl rfl,
  fun _ _ _ _ _ _ _ _ => er_go rfl rfl,
  fun _ _ _ _ _ _ _ _ _ => er_go rfl rfl,
  fun _ _ _ _ _ _ _ _ _ _ _ => er_put1 rfl rfl,
  fun _ _ _ _ _ _ _ _ _ => er_go rfl rfl,
  fun _ _ _ _ _ _ _ _ _ => er_go rfl rfl,
  fun _ _ _ _ _ _ _ _ => er_go rfl rfl,
  fun _ _ _ _ _ _ _ _ _ _ => er_get1 rfl,
  fun _ _ _ _ _ _ _ _ _ _ _ => er_go rfl rfl,
  fun _ _ _ _ _ _ _ _ _ _ => er_go rfl rfl,
  fun _ _ _ _ _ _ _ _ _ => er_go rfl rfl,
  fun _ _ _ _ _ _ _ _ _ => er_go rfl rfl,
  fun _ _ _ _ _ _ _ _ _ => er_go rfl rfl,
  fun _ _ _ _ _ _ _ _ _ => er_ret rfl rfl⟩
theorem hd70_5 : ∀ (P : Nat × Nat) (l0 : Option Value) (l1 : Option Value) (l2 : Option Value) (l3 : Option Value) (l5 : Option Value) (x0 : Int32) (s : List Value) (h : am_H), am_E P 70 5 [l0, l1, l2, l3, some (.int x0), l5] s h = am_E P 70 7 [l0, l1, l2, l3, some (.int x0), l5] (.int x0 :: s) h := fun _ _ _ _ _ _ _ _ _ => er_go rfl rfl
