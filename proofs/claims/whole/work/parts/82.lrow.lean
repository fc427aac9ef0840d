/-! The law: its rows, in small bundles. -/
set_option maxRecDepth 100000 in
theorem q130_s : (∀ (P : Nat × Nat) (l0 : Option Value) (l1 : Option Value) (l2 : Option Value) (l3 : Option Value) (s : List Value) (h : am_H), am_E P 130 0 [l0, l1, l2, l3] s h = am_E P 130 3 [l0, l1, l2, l3] (.ref h.1 :: s) (ah_new h 9 (ac_O 8 [.null, .null, .null, .null, .int 0, .int 0, .int 0, .int 0, .int 0]))) ∧
  (∀ (P : Nat × Nat) (l0 : Option Value) (l1 : Option Value) (l2 : Option Value) (l3 : Option Value) (a0 : Nat) (s : List Value) (h : am_H), am_E P 130 3 [l0, l1, l2, l3] (.ref a0 :: s) h = am_E P 130 4 [l0, l1, l2, l3] (.ref a0 :: .ref a0 :: s) h) ∧
  (∀ (P : Nat × Nat) (l0 : Option Value) (l1 : Option Value) (l2 : Option Value) (l3 : Option Value) (a0 : Nat) (v0 : Value) (h : am_H), am_E P 130 4 [l0, l1, l2, l3] [.ref a0, v0] h = (am_E P 32 0 [some (.ref a0)] [] h).bind (fun q => am_E P 130 7 [l0, l1, l2, l3] (q.1.toList ++ [v0]) q.2)) ∧
  (∀ (P : Nat × Nat) (l0 : Option Value) (l1 : Option Value) (l2 : Option Value) (l3 : Option Value) (a0 : Nat) (s : List Value) (h : am_H), am_E P 130 7 [l0, l1, l2, l3] (.ref a0 :: s) h = am_E P 130 8 [l0, some (.ref a0), l2, l3] s h) ∧
  (∀ (P : Nat × Nat) (l0 : Option Value) (l1 : Option Value) (l2 : Option Value) (l3 : Option Value) (s : List Value) (h : am_H), am_E P 130 7 [l0, l1, l2, l3] (.null :: s) h = am_E P 130 8 [l0, some .null, l2, l3] s h) ∧
  (∀ (P : Nat × Nat) (l0 : Option Value) (l1 : Option Value) (l2 : Option Value) (l3 : Option Value) (s : List Value) (h : am_H), am_E P 130 8 [l0, l1, l2, l3] s h = am_E P 130 11 [l0, l1, l2, l3] (.ref h.1 :: s) (ah_new h 34 (ac_O 9 [.int 0, .null, .null, .null, .null, .null, .null, .null, .int 0, .null, .null, .null, .null, .null, .null, .null, .null, .null, .null, .null, .null, .null, .int 0, .null, .null, .int 0, .null, .int 0, .int 0, .int 0, .int 0, .int 0, .int 0, .int 0]))) ∧
  (∀ (P : Nat × Nat) (l0 : Option Value) (l1 : Option Value) (l2 : Option Value) (l3 : Option Value) (a0 : Nat) (s : List Value) (h : am_H), am_E P 130 11 [l0, l1, l2, l3] (.ref a0 :: s) h = am_E P 130 12 [l0, l1, l2, l3] (.ref a0 :: .ref a0 :: s) h) ∧
  (∀ (P : Nat × Nat) (l0 : Option Value) (l1 : Option Value) (l2 : Option Value) (l3 : Option Value) (a0 : Nat) (v0 : Value) (h : am_H), am_E P 130 12 [l0, l1, l2, l3] [.ref a0, v0] h = (am_E P 71 0 [some (.ref a0), none] [] h).bind (fun q => am_E P 130 15 [l0, l1, l2, l3] (q.1.toList ++ [v0]) q.2)) ∧
  (∀ (P : Nat × Nat) (l0 : Option Value) (l1 : Option Value) (l2 : Option Value) (l3 : Option Value) (a0 : Nat) (s : List Value) (h : am_H), am_E P 130 15 [l0, l1, l2, l3] (.ref a0 :: s) h = am_E P 130 16 [l0, l1, some (.ref a0), l3] s h) ∧
  (∀ (P : Nat × Nat) (l0 : Option Value) (l1 : Option Value) (l2 : Option Value) (l3 : Option Value) (s : List Value) (h : am_H), am_E P 130 15 [l0, l1, l2, l3] (.null :: s) h = am_E P 130 16 [l0, l1, some .null, l3] s h) ∧
  (∀ (P : Nat × Nat) (l0 : Option Value) (l1 : Option Value) (l2 : Option Value) (l3 : Option Value) (s : List Value) (h : am_H), am_E P 130 16 [l0, l1, l2, l3] s h = am_E P 130 17 [l0, l1, l2, l3] (.int 0 :: s) h) ∧
  (∀ (P : Nat × Nat) (l0 : Option Value) (l1 : Option Value) (l2 : Option Value) (l3 : Option Value) (x0 : Int32) (s : List Value) (h : am_H), am_E P 130 17 [l0, l1, l2, l3] (.int x0 :: s) h = am_E P 130 18 [l0, l1, l2, some (.int x0)] s h) :=
  ⟨fun _ _ _ _ _ _ _ => er_go rfl rfl,
  fun _ _ _ _ _ _ _ _ => er_go rfl rfl,
  fun _ _ _ _ _ _ _ _ => er_callS rfl rfl rfl,
  fun _ _ _ _ _ _ _ _ => er_go rfl rfl,
  fun _ _ _ _ _ _ _ => er_go rfl rfl,
  fun _ _ _ _ _ _ _ => er_go rfl rfl,
  fun _ _ _ _ _ _ _ _ => er_go rfl rfl,
  fun _ _ _ _ _ _ _ _ => er_callS rfl rfl rfl,
  fun _ _ _ _ _ _ _ _ => er_go rfl rfl,
  fun _ _ _ _ _ _ _ => er_go rfl rfl,
  fun _ _ _ _ _ _ _ => er_go rfl rfl,
  fun _ _ _ _ _ _ _ _ => er_go rfl rfl⟩
set_option maxRecDepth 100000 in
theorem q130_h : (∀ (P : Nat × Nat) (l1 : Option Value) (l2 : Option Value) (l3 : Option Value) (a0 : Nat) (s : List Value) (h : am_H), am_E P 130 19 [some (.ref a0), l1, l2, l3] s h = am_E P 130 20 [some (.ref a0), l1, l2, l3] (.ref a0 :: s) h) ∧
  (∀ (P : Nat × Nat) (l0 : Option Value) (l1 : Option Value) (l2 : Option Value) (l3 : Option Value) (a0 : Nat) (s : List Value) (h : am_H), am_E P 130 20 [l0, l1, l2, l3] (.ref a0 :: s) h = (am_alen h a0).bind (fun v => am_E P 130 21 [l0, l1, l2, l3] (.int v :: s) h)) ∧
  (∀ (P : Nat × Nat) (l0 : Option Value) (l1 : Option Value) (l2 : Option Value) (l3 : Option Value) (s : List Value) (h : am_H), am_E P 130 21 [l0, l1, l2, l3] s h = am_E P 130 22 [l0, l1, l2, l3] (.int 4 :: s) h) ∧
  (∀ (P : Nat × Nat) (l0 : Option Value) (l1 : Option Value) (l2 : Option Value) (l3 : Option Value) (x0 : Int32) (x1 : Int32) (s : List Value) (h : am_H), am_E P 130 22 [l0, l1, l2, l3] (.int x1 :: .int x0 :: s) h = am_E P 130 23 [l0, l1, l2, l3] (.int (x0 - x1) :: s) h) ∧
  (∀ (P : Nat × Nat) (l0 : Option Value) (l1 : Option Value) (l2 : Option Value) (l3 : Option Value) (x0 : Int32) (x1 : Int32) (s : List Value) (h : am_H), am_E P 130 23 [l0, l1, l2, l3] (.int x1 :: .int x0 :: s) h = if x1 < x0 then am_E P 130 696 [l0, l1, l2, l3] s h else am_E P 130 26 [l0, l1, l2, l3] s h) ∧
  (∀ (P : Nat × Nat) (l1 : Option Value) (l2 : Option Value) (l3 : Option Value) (a0 : Nat) (s : List Value) (h : am_H), am_E P 130 26 [some (.ref a0), l1, l2, l3] s h = am_E P 130 27 [some (.ref a0), l1, l2, l3] (.ref a0 :: s) h) ∧
  (∀ (P : Nat × Nat) (l0 : Option Value) (l1 : Option Value) (l2 : Option Value) (x0 : Int32) (s : List Value) (h : am_H), am_E P 130 27 [l0, l1, l2, some (.int x0)] s h = am_E P 130 28 [l0, l1, l2, some (.int x0)] (.int x0 :: s) h) ∧
  (∀ (P : Nat × Nat) (l0 : Option Value) (l1 : Option Value) (l2 : Option Value) (l3 : Option Value) (x0 : Int32) (a0 : Nat) (s : List Value) (h : am_H), am_E P 130 28 [l0, l1, l2, l3] (.int x0 :: .ref a0 :: s) h = (am_iald h a0 x0).bind (fun v => am_E P 130 29 [l0, l1, l2, l3] (.int v :: s) h)) ∧
  (∀ (P : Nat × Nat) (l0 : Option Value) (l1 : Option Value) (l2 : Option Value) (l3 : Option Value) (s : List Value) (h : am_H), am_E P 130 29 [l0, l1, l2, l3] s h = am_E P 130 31 [l0, l1, l2, l3] (.int 31 :: s) h) ∧
  (∀ (P : Nat × Nat) (l0 : Option Value) (l1 : Option Value) (l2 : Option Value) (l3 : Option Value) (x0 : Int32) (x1 : Int32) (s : List Value) (h : am_H), am_E P 130 31 [l0, l1, l2, l3] (.int x1 :: .int x0 :: s) h = am_E P 130 32 [l0, l1, l2, l3] (.int (x0 &&& x1) :: s) h) :=
  ⟨fun _ _ _ _ _ _ _ => er_go rfl rfl,
  fun _ _ _ _ _ _ _ _ => er_alen rfl,
  fun _ _ _ _ _ _ _ => er_go rfl rfl,
  fun _ _ _ _ _ _ _ _ _ => er_go rfl rfl,
  fun _ _ _ _ _ _ _ _ _ => er_ic_gt rfl,
  fun _ _ _ _ _ _ _ => er_go rfl rfl,
  fun _ _ _ _ _ _ _ => er_go rfl rfl,
  fun _ _ _ _ _ _ _ _ _ => er_iald rfl,
  fun _ _ _ _ _ _ _ => er_go rfl rfl,
  fun _ _ _ _ _ _ _ _ _ => er_go rfl rfl⟩
set_option maxRecDepth 100000 in
theorem q130_w : (∀ (P : Nat × Nat) (l0 : Option Value) (l1 : Option Value) (l2 : Option Value) (l3 : Option Value) (x0 : Int32) (s : List Value) (h : am_H), am_E P 130 32 [l0, l1, l2, l3] (.int x0 :: s) h = if x0 = 0 then am_E P 130 128 [l0, l1, l2, l3] s h else if x0 = 1 then am_E P 130 151 [l0, l1, l2, l3] s h else if x0 = 2 then am_E P 130 194 [l0, l1, l2, l3] s h else if x0 = 3 then am_E P 130 217 [l0, l1, l2, l3] s h else if x0 = 4 then am_E P 130 240 [l0, l1, l2, l3] s h else if x0 = 5 then am_E P 130 253 [l0, l1, l2, l3] s h else if x0 = 6 then am_E P 130 276 [l0, l1, l2, l3] s h else if x0 = 7 then am_E P 130 299 [l0, l1, l2, l3] s h else if x0 = 8 then am_E P 130 332 [l0, l1, l2, l3] s h else if x0 = 9 then am_E P 130 355 [l0, l1, l2, l3] s h else if x0 = 10 then am_E P 130 368 [l0, l1, l2, l3] s h else if x0 = 11 then am_E P 130 401 [l0, l1, l2, l3] s h else if x0 = 12 then am_E P 130 444 [l0, l1, l2, l3] s h else if x0 = 13 then am_E P 130 488 [l0, l1, l2, l3] s h else if x0 = 14 then am_E P 130 532 [l0, l1, l2, l3] s h else if x0 = 15 then am_E P 130 555 [l0, l1, l2, l3] s h else if x0 = 16 then am_E P 130 588 [l0, l1, l2, l3] s h else if x0 = 17 then am_E P 130 621 [l0, l1, l2, l3] s h else if x0 = 18 then am_E P 130 654 [l0, l1, l2, l3] s h else if x0 = 19 then am_E P 130 677 [l0, l1, l2, l3] s h else am_E P 130 690 [l0, l1, l2, l3] s h) := fun _ _ _ _ _ _ _ _ => er_sw rfl rfl rfl
set_option maxRecDepth 100000 in
theorem q130_c0 : (∀ (P : Nat × Nat) (l0 : Option Value) (l2 : Option Value) (l3 : Option Value) (a0 : Nat) (s : List Value) (h : am_H), am_E P 130 128 [l0, some (.ref a0), l2, l3] s h = am_E P 130 129 [l0, some (.ref a0), l2, l3] (.ref a0 :: s) h) ∧
  (∀ (P : Nat × Nat) (l1 : Option Value) (l2 : Option Value) (l3 : Option Value) (a0 : Nat) (s : List Value) (h : am_H), am_E P 130 129 [some (.ref a0), l1, l2, l3] s h = am_E P 130 130 [some (.ref a0), l1, l2, l3] (.ref a0 :: s) h) ∧
  (∀ (P : Nat × Nat) (l0 : Option Value) (l1 : Option Value) (l2 : Option Value) (x0 : Int32) (s : List Value) (h : am_H), am_E P 130 130 [l0, l1, l2, some (.int x0)] s h = am_E P 130 131 [l0, l1, l2, some (.int x0)] (.int x0 :: s) h) ∧
  (∀ (P : Nat × Nat) (l0 : Option Value) (l1 : Option Value) (l2 : Option Value) (l3 : Option Value) (s : List Value) (h : am_H), am_E P 130 131 [l0, l1, l2, l3] s h = am_E P 130 132 [l0, l1, l2, l3] (.int 1 :: s) h) ∧
  (∀ (P : Nat × Nat) (l0 : Option Value) (l1 : Option Value) (l2 : Option Value) (l3 : Option Value) (x0 : Int32) (x1 : Int32) (s : List Value) (h : am_H), am_E P 130 132 [l0, l1, l2, l3] (.int x1 :: .int x0 :: s) h = am_E P 130 133 [l0, l1, l2, l3] (.int (x0 + x1) :: s) h) ∧
  (∀ (P : Nat × Nat) (l0 : Option Value) (l1 : Option Value) (l2 : Option Value) (l3 : Option Value) (x0 : Int32) (a0 : Nat) (s : List Value) (h : am_H), am_E P 130 133 [l0, l1, l2, l3] (.int x0 :: .ref a0 :: s) h = (am_iald h a0 x0).bind (fun v => am_E P 130 134 [l0, l1, l2, l3] (.int v :: s) h)) ∧
  (∀ (P : Nat × Nat) (l0 : Option Value) (l1 : Option Value) (l2 : Option Value) (l3 : Option Value) (a0 : Nat) (x0 : Int32) (h : am_H), am_E P 130 134 [l0, l1, l2, l3] [.int x0, .ref a0] h = if am_cls h a0 = some 8 then (am_E P 33 0 [some (.ref a0), some (.int x0), none] [] h).bind (fun q => am_E P 130 137 [l0, l1, l2, l3] (q.1.toList ++ []) q.2) else none) ∧
  (∀ (P : Nat × Nat) (l0 : Option Value) (l1 : Option Value) (l3 : Option Value) (a0 : Nat) (s : List Value) (h : am_H), am_E P 130 137 [l0, l1, some (.ref a0), l3] s h = am_E P 130 138 [l0, l1, some (.ref a0), l3] (.ref a0 :: s) h) ∧
  (∀ (P : Nat × Nat) (l1 : Option Value) (l2 : Option Value) (l3 : Option Value) (a0 : Nat) (s : List Value) (h : am_H), am_E P 130 138 [some (.ref a0), l1, l2, l3] s h = am_E P 130 139 [some (.ref a0), l1, l2, l3] (.ref a0 :: s) h) ∧
  (∀ (P : Nat × Nat) (l0 : Option Value) (l1 : Option Value) (l2 : Option Value) (x0 : Int32) (s : List Value) (h : am_H), am_E P 130 139 [l0, l1, l2, some (.int x0)] s h = am_E P 130 140 [l0, l1, l2, some (.int x0)] (.int x0 :: s) h) ∧
  (∀ (P : Nat × Nat) (l0 : Option Value) (l1 : Option Value) (l2 : Option Value) (l3 : Option Value) (s : List Value) (h : am_H), am_E P 130 140 [l0, l1, l2, l3] s h = am_E P 130 141 [l0, l1, l2, l3] (.int 1 :: s) h) ∧
  (∀ (P : Nat × Nat) (l0 : Option Value) (l1 : Option Value) (l2 : Option Value) (l3 : Option Value) (x0 : Int32) (x1 : Int32) (s : List Value) (h : am_H), am_E P 130 141 [l0, l1, l2, l3] (.int x1 :: .int x0 :: s) h = am_E P 130 142 [l0, l1, l2, l3] (.int (x0 + x1) :: s) h) ∧
  (∀ (P : Nat × Nat) (l0 : Option Value) (l1 : Option Value) (l2 : Option Value) (l3 : Option Value) (x0 : Int32) (a0 : Nat) (s : List Value) (h : am_H), am_E P 130 142 [l0, l1, l2, l3] (.int x0 :: .ref a0 :: s) h = (am_iald h a0 x0).bind (fun v => am_E P 130 143 [l0, l1, l2, l3] (.int v :: s) h)) ∧
  (∀ (P : Nat × Nat) (l0 : Option Value) (l1 : Option Value) (l2 : Option Value) (l3 : Option Value) (a0 : Nat) (x0 : Int32) (v0 : Value) (h : am_H), am_E P 130 143 [l0, l1, l2, l3] [.int x0, .ref a0, v0] h = if am_cls h a0 = some 9 then (am_E P 82 0 [some (.ref a0), some (.int x0)] [] h).bind (fun q => am_E P 130 146 [l0, l1, l2, l3] (q.1.toList ++ [v0]) q.2) else none) ∧
  (∀ (P : Nat × Nat) (l0 : Option Value) (l1 : Option Value) (l2 : Option Value) (l3 : Option Value) (x0 : Int32) (x1 : Int32) (s : List Value) (h : am_H), am_E P 130 146 [l0, l1, l2, l3] (.int x1 :: .int x0 :: s) h = if x0 = x1 then am_E P 130 690 [l0, l1, l2, l3] s h else am_E P 130 149 [l0, l1, l2, l3] s h) ∧
  (∀ (P : Nat × Nat) (l0 : Option Value) (l1 : Option Value) (l2 : Option Value) (l3 : Option Value) (s : List Value) (h : am_H), am_E P 130 149 [l0, l1, l2, l3] s h = am_E P 130 150 [l0, l1, l2, l3] (.int 0 :: s) h) ∧
  (∀ (P : Nat × Nat) (l0 : Option Value) (l1 : Option Value) (l2 : Option Value) (l3 : Option Value) (x0 : Int32) (h : am_H), am_E P 130 150 [l0, l1, l2, l3] [.int x0] h = if x0 = 0 ∨ x0 = 1 then some (some (.int x0), h) else none) :=
  ⟨fun _ _ _ _ _ _ _ => er_go rfl rfl,
  fun _ _ _ _ _ _ _ => er_go rfl rfl,
  fun _ _ _ _ _ _ _ => er_go rfl rfl,
  fun _ _ _ _ _ _ _ => er_go rfl rfl,
  fun _ _ _ _ _ _ _ _ _ => er_go rfl rfl,
  fun _ _ _ _ _ _ _ _ _ => er_iald rfl,
  fun _ _ _ _ _ _ _ _ => er_callV rfl rfl rfl rfl,
  fun _ _ _ _ _ _ _ => er_go rfl rfl,
  fun _ _ _ _ _ _ _ => er_go rfl rfl,
  fun _ _ _ _ _ _ _ => er_go rfl rfl,
  fun _ _ _ _ _ _ _ => er_go rfl rfl,
  fun _ _ _ _ _ _ _ _ _ => er_go rfl rfl,
  fun _ _ _ _ _ _ _ _ _ => er_iald rfl,
  fun _ _ _ _ _ _ _ _ _ => er_callV rfl rfl rfl rfl,
  fun _ _ _ _ _ _ _ _ _ => er_ic_eq rfl,
  fun _ _ _ _ _ _ _ => er_go rfl rfl,
  fun _ _ _ _ _ _ _ => er_retZ rfl rfl⟩
set_option maxRecDepth 100000 in
theorem q130_c1 : (∀ (P : Nat × Nat) (l0 : Option Value) (l2 : Option Value) (l3 : Option Value) (a0 : Nat) (s : List Value) (h : am_H), am_E P 130 151 [l0, some (.ref a0), l2, l3] s h = am_E P 130 152 [l0, some (.ref a0), l2, l3] (.ref a0 :: s) h) ∧
  (∀ (P : Nat × Nat) (l1 : Option Value) (l2 : Option Value) (l3 : Option Value) (a0 : Nat) (s : List Value) (h : am_H), am_E P 130 152 [some (.ref a0), l1, l2, l3] s h = am_E P 130 153 [some (.ref a0), l1, l2, l3] (.ref a0 :: s) h) ∧
  (∀ (P : Nat × Nat) (l0 : Option Value) (l1 : Option Value) (l2 : Option Value) (x0 : Int32) (s : List Value) (h : am_H), am_E P 130 153 [l0, l1, l2, some (.int x0)] s h = am_E P 130 154 [l0, l1, l2, some (.int x0)] (.int x0 :: s) h) ∧
  (∀ (P : Nat × Nat) (l0 : Option Value) (l1 : Option Value) (l2 : Option Value) (l3 : Option Value) (s : List Value) (h : am_H), am_E P 130 154 [l0, l1, l2, l3] s h = am_E P 130 155 [l0, l1, l2, l3] (.int 1 :: s) h) ∧
  (∀ (P : Nat × Nat) (l0 : Option Value) (l1 : Option Value) (l2 : Option Value) (l3 : Option Value) (x0 : Int32) (x1 : Int32) (s : List Value) (h : am_H), am_E P 130 155 [l0, l1, l2, l3] (.int x1 :: .int x0 :: s) h = am_E P 130 156 [l0, l1, l2, l3] (.int (x0 + x1) :: s) h) ∧
  (∀ (P : Nat × Nat) (l0 : Option Value) (l1 : Option Value) (l2 : Option Value) (l3 : Option Value) (x0 : Int32) (a0 : Nat) (s : List Value) (h : am_H), am_E P 130 156 [l0, l1, l2, l3] (.int x0 :: .ref a0 :: s) h = (am_iald h a0 x0).bind (fun v => am_E P 130 157 [l0, l1, l2, l3] (.int v :: s) h)) ∧
  (∀ (P : Nat × Nat) (l1 : Option Value) (l2 : Option Value) (l3 : Option Value) (a0 : Nat) (s : List Value) (h : am_H), am_E P 130 157 [some (.ref a0), l1, l2, l3] s h = am_E P 130 158 [some (.ref a0), l1, l2, l3] (.ref a0 :: s) h) ∧
  (∀ (P : Nat × Nat) (l0 : Option Value) (l1 : Option Value) (l2 : Option Value) (x0 : Int32) (s : List Value) (h : am_H), am_E P 130 158 [l0, l1, l2, some (.int x0)] s h = am_E P 130 159 [l0, l1, l2, some (.int x0)] (.int x0 :: s) h) ∧
  (∀ (P : Nat × Nat) (l0 : Option Value) (l1 : Option Value) (l2 : Option Value) (l3 : Option Value) (s : List Value) (h : am_H), am_E P 130 159 [l0, l1, l2, l3] s h = am_E P 130 160 [l0, l1, l2, l3] (.int 2 :: s) h) ∧
  (∀ (P : Nat × Nat) (l0 : Option Value) (l1 : Option Value) (l2 : Option Value) (l3 : Option Value) (x0 : Int32) (x1 : Int32) (s : List Value) (h : am_H), am_E P 130 160 [l0, l1, l2, l3] (.int x1 :: .int x0 :: s) h = am_E P 130 161 [l0, l1, l2, l3] (.int (x0 + x1) :: s) h) ∧
  (∀ (P : Nat × Nat) (l0 : Option Value) (l1 : Option Value) (l2 : Option Value) (l3 : Option Value) (x0 : Int32) (a0 : Nat) (s : List Value) (h : am_H), am_E P 130 161 [l0, l1, l2, l3] (.int x0 :: .ref a0 :: s) h = (am_iald h a0 x0).bind (fun v => am_E P 130 162 [l0, l1, l2, l3] (.int v :: s) h)) ∧
  (∀ (P : Nat × Nat) (l1 : Option Value) (l2 : Option Value) (l3 : Option Value) (a0 : Nat) (s : List Value) (h : am_H), am_E P 130 162 [some (.ref a0), l1, l2, l3] s h = am_E P 130 163 [some (.ref a0), l1, l2, l3] (.ref a0 :: s) h) ∧
  (∀ (P : Nat × Nat) (l0 : Option Value) (l1 : Option Value) (l2 : Option Value) (x0 : Int32) (s : List Value) (h : am_H), am_E P 130 163 [l0, l1, l2, some (.int x0)] s h = am_E P 130 164 [l0, l1, l2, some (.int x0)] (.int x0 :: s) h) ∧
  (∀ (P : Nat × Nat) (l0 : Option Value) (l1 : Option Value) (l2 : Option Value) (l3 : Option Value) (s : List Value) (h : am_H), am_E P 130 164 [l0, l1, l2, l3] s h = am_E P 130 165 [l0, l1, l2, l3] (.int 3 :: s) h) ∧
  (∀ (P : Nat × Nat) (l0 : Option Value) (l1 : Option Value) (l2 : Option Value) (l3 : Option Value) (x0 : Int32) (x1 : Int32) (s : List Value) (h : am_H), am_E P 130 165 [l0, l1, l2, l3] (.int x1 :: .int x0 :: s) h = am_E P 130 166 [l0, l1, l2, l3] (.int (x0 + x1) :: s) h) ∧
  (∀ (P : Nat × Nat) (l0 : Option Value) (l1 : Option Value) (l2 : Option Value) (l3 : Option Value) (x0 : Int32) (a0 : Nat) (s : List Value) (h : am_H), am_E P 130 166 [l0, l1, l2, l3] (.int x0 :: .ref a0 :: s) h = (am_iald h a0 x0).bind (fun v => am_E P 130 167 [l0, l1, l2, l3] (.int v :: s) h)) ∧
  (∀ (P : Nat × Nat) (l0 : Option Value) (l1 : Option Value) (l2 : Option Value) (l3 : Option Value) (a0 : Nat) (x0 : Int32) (x1 : Int32) (x2 : Int32) (h : am_H), am_E P 130 167 [l0, l1, l2, l3] [.int x2, .int x1, .int x0, .ref a0] h = if am_cls h a0 = some 8 then (am_E P 34 0 [some (.ref a0), some (.int x0), some (.int x1), some (.int x2), none] [] h).bind (fun q => am_E P 130 170 [l0, l1, l2, l3] (q.1.toList ++ []) q.2) else none) ∧
  (∀ (P : Nat × Nat) (l0 : Option Value) (l1 : Option Value) (l3 : Option Value) (a0 : Nat) (s : List Value) (h : am_H), am_E P 130 170 [l0, l1, some (.ref a0), l3] s h = am_E P 130 171 [l0, l1, some (.ref a0), l3] (.ref a0 :: s) h) ∧
  (∀ (P : Nat × Nat) (l1 : Option Value) (l2 : Option Value) (l3 : Option Value) (a0 : Nat) (s : List Value) (h : am_H), am_E P 130 171 [some (.ref a0), l1, l2, l3] s h = am_E P 130 172 [some (.ref a0), l1, l2, l3] (.ref a0 :: s) h) ∧
  (∀ (P : Nat × Nat) (l0 : Option Value) (l1 : Option Value) (l2 : Option Value) (x0 : Int32) (s : List Value) (h : am_H), am_E P 130 172 [l0, l1, l2, some (.int x0)] s h = am_E P 130 173 [l0, l1, l2, some (.int x0)] (.int x0 :: s) h) ∧
  (∀ (P : Nat × Nat) (l0 : Option Value) (l1 : Option Value) (l2 : Option Value) (l3 : Option Value) (s : List Value) (h : am_H), am_E P 130 173 [l0, l1, l2, l3] s h = am_E P 130 174 [l0, l1, l2, l3] (.int 1 :: s) h) ∧
  (∀ (P : Nat × Nat) (l0 : Option Value) (l1 : Option Value) (l2 : Option Value) (l3 : Option Value) (x0 : Int32) (x1 : Int32) (s : List Value) (h : am_H), am_E P 130 174 [l0, l1, l2, l3] (.int x1 :: .int x0 :: s) h = am_E P 130 175 [l0, l1, l2, l3] (.int (x0 + x1) :: s) h) ∧
  (∀ (P : Nat × Nat) (l0 : Option Value) (l1 : Option Value) (l2 : Option Value) (l3 : Option Value) (x0 : Int32) (a0 : Nat) (s : List Value) (h : am_H), am_E P 130 175 [l0, l1, l2, l3] (.int x0 :: .ref a0 :: s) h = (am_iald h a0 x0).bind (fun v => am_E P 130 176 [l0, l1, l2, l3] (.int v :: s) h)) ∧
  (∀ (P : Nat × Nat) (l1 : Option Value) (l2 : Option Value) (l3 : Option Value) (a0 : Nat) (s : List Value) (h : am_H), am_E P 130 176 [some (.ref a0), l1, l2, l3] s h = am_E P 130 177 [some (.ref a0), l1, l2, l3] (.ref a0 :: s) h) ∧
  (∀ (P : Nat × Nat) (l0 : Option Value) (l1 : Option Value) (l2 : Option Value) (x0 : Int32) (s : List Value) (h : am_H), am_E P 130 177 [l0, l1, l2, some (.int x0)] s h = am_E P 130 178 [l0, l1, l2, some (.int x0)] (.int x0 :: s) h) ∧
  (∀ (P : Nat × Nat) (l0 : Option Value) (l1 : Option Value) (l2 : Option Value) (l3 : Option Value) (s : List Value) (h : am_H), am_E P 130 178 [l0, l1, l2, l3] s h = am_E P 130 179 [l0, l1, l2, l3] (.int 2 :: s) h) ∧
  (∀ (P : Nat × Nat) (l0 : Option Value) (l1 : Option Value) (l2 : Option Value) (l3 : Option Value) (x0 : Int32) (x1 : Int32) (s : List Value) (h : am_H), am_E P 130 179 [l0, l1, l2, l3] (.int x1 :: .int x0 :: s) h = am_E P 130 180 [l0, l1, l2, l3] (.int (x0 + x1) :: s) h) ∧
  (∀ (P : Nat × Nat) (l0 : Option Value) (l1 : Option Value) (l2 : Option Value) (l3 : Option Value) (x0 : Int32) (a0 : Nat) (s : List Value) (h : am_H), am_E P 130 180 [l0, l1, l2, l3] (.int x0 :: .ref a0 :: s) h = (am_iald h a0 x0).bind (fun v => am_E P 130 181 [l0, l1, l2, l3] (.int v :: s) h)) ∧
  (∀ (P : Nat × Nat) (l1 : Option Value) (l2 : Option Value) (l3 : Option Value) (a0 : Nat) (s : List Value) (h : am_H), am_E P 130 181 [some (.ref a0), l1, l2, l3] s h = am_E P 130 182 [some (.ref a0), l1, l2, l3] (.ref a0 :: s) h) ∧
  (∀ (P : Nat × Nat) (l0 : Option Value) (l1 : Option Value) (l2 : Option Value) (x0 : Int32) (s : List Value) (h : am_H), am_E P 130 182 [l0, l1, l2, some (.int x0)] s h = am_E P 130 183 [l0, l1, l2, some (.int x0)] (.int x0 :: s) h) ∧
  (∀ (P : Nat × Nat) (l0 : Option Value) (l1 : Option Value) (l2 : Option Value) (l3 : Option Value) (s : List Value) (h : am_H), am_E P 130 183 [l0, l1, l2, l3] s h = am_E P 130 184 [l0, l1, l2, l3] (.int 3 :: s) h) ∧
  (∀ (P : Nat × Nat) (l0 : Option Value) (l1 : Option Value) (l2 : Option Value) (l3 : Option Value) (x0 : Int32) (x1 : Int32) (s : List Value) (h : am_H), am_E P 130 184 [l0, l1, l2, l3] (.int x1 :: .int x0 :: s) h = am_E P 130 185 [l0, l1, l2, l3] (.int (x0 + x1) :: s) h) ∧
  (∀ (P : Nat × Nat) (l0 : Option Value) (l1 : Option Value) (l2 : Option Value) (l3 : Option Value) (x0 : Int32) (a0 : Nat) (s : List Value) (h : am_H), am_E P 130 185 [l0, l1, l2, l3] (.int x0 :: .ref a0 :: s) h = (am_iald h a0 x0).bind (fun v => am_E P 130 186 [l0, l1, l2, l3] (.int v :: s) h)) ∧
  (∀ (P : Nat × Nat) (l0 : Option Value) (l1 : Option Value) (l2 : Option Value) (l3 : Option Value) (a0 : Nat) (x0 : Int32) (x1 : Int32) (x2 : Int32) (v0 : Value) (h : am_H), am_E P 130 186 [l0, l1, l2, l3] [.int x2, .int x1, .int x0, .ref a0, v0] h = if am_cls h a0 = some 9 then (am_E P 83 0 [some (.ref a0), some (.int x0), some (.int x1), some (.int x2), none] [] h).bind (fun q => am_E P 130 189 [l0, l1, l2, l3] (q.1.toList ++ [v0]) q.2) else none) ∧
  (∀ (P : Nat × Nat) (l0 : Option Value) (l1 : Option Value) (l2 : Option Value) (l3 : Option Value) (x0 : Int32) (x1 : Int32) (s : List Value) (h : am_H), am_E P 130 189 [l0, l1, l2, l3] (.int x1 :: .int x0 :: s) h = if x0 = x1 then am_E P 130 690 [l0, l1, l2, l3] s h else am_E P 130 192 [l0, l1, l2, l3] s h) ∧
  (∀ (P : Nat × Nat) (l0 : Option Value) (l1 : Option Value) (l2 : Option Value) (l3 : Option Value) (s : List Value) (h : am_H), am_E P 130 192 [l0, l1, l2, l3] s h = am_E P 130 193 [l0, l1, l2, l3] (.int 0 :: s) h) ∧
  (∀ (P : Nat × Nat) (l0 : Option Value) (l1 : Option Value) (l2 : Option Value) (l3 : Option Value) (x0 : Int32) (h : am_H), am_E P 130 193 [l0, l1, l2, l3] [.int x0] h = if x0 = 0 ∨ x0 = 1 then some (some (.int x0), h) else none) :=
  ⟨fun _ _ _ _ _ _ _ => er_go rfl rfl,
  fun _ _ _ _ _ _ _ => er_go rfl rfl,
  fun _ _ _ _ _ _ _ => er_go rfl rfl,
  fun _ _ _ _ _ _ _ => er_go rfl rfl,
  fun _ _ _ _ _ _ _ _ _ => er_go rfl rfl,
  fun _ _ _ _ _ _ _ _ _ => er_iald rfl,
  fun _ _ _ _ _ _ _ => er_go rfl rfl,
  fun _ _ _ _ _ _ _ => er_go rfl rfl,
  fun _ _ _ _ _ _ _ => er_go rfl rfl,
  fun _ _ _ _ _ _ _ _ _ => er_go rfl rfl,
  fun _ _ _ _ _ _ _ _ _ => er_iald rfl,
  fun _ _ _ _ _ _ _ => er_go rfl rfl,
  fun _ _ _ _ _ _ _ => er_go rfl rfl,
  fun _ _ _ _ _ _ _ => er_go rfl rfl,
  fun _ _ _ _ _ _ _ _ _ => er_go rfl rfl,
  fun _ _ _ _ _ _ _ _ _ => er_iald rfl,
  fun _ _ _ _ _ _ _ _ _ _ => er_callV rfl rfl rfl rfl,
  fun _ _ _ _ _ _ _ => er_go rfl rfl,
  fun _ _ _ _ _ _ _ => er_go rfl rfl,
  fun _ _ _ _ _ _ _ => er_go rfl rfl,
  fun _ _ _ _ _ _ _ => er_go rfl rfl,
  fun _ _ _ _ _ _ _ _ _ => er_go rfl rfl,
  fun _ _ _ _ _ _ _ _ _ => er_iald rfl,
  fun _ _ _ _ _ _ _ => er_go rfl rfl,
  fun _ _ _ _ _ _ _ => er_go rfl rfl,
  fun _ _ _ _ _ _ _ => er_go rfl rfl,
  fun _ _ _ _ _ _ _ _ _ => er_go rfl rfl,
  fun _ _ _ _ _ _ _ _ _ => er_iald rfl,
  fun _ _ _ _ _ _ _ => er_go rfl rfl,
  fun _ _ _ _ _ _ _ => er_go rfl rfl,
  fun _ _ _ _ _ _ _ => er_go rfl rfl,
  fun _ _ _ _ _ _ _ _ _ => er_go rfl rfl,
  fun _ _ _ _ _ _ _ _ _ => er_iald rfl,
  fun _ _ _ _ _ _ _ _ _ _ _ => er_callV rfl rfl rfl rfl,
  fun _ _ _ _ _ _ _ _ _ => er_ic_eq rfl,
  fun _ _ _ _ _ _ _ => er_go rfl rfl,
  fun _ _ _ _ _ _ _ => er_retZ rfl rfl⟩
set_option maxRecDepth 100000 in
theorem q130_c2 : (∀ (P : Nat × Nat) (l0 : Option Value) (l2 : Option Value) (l3 : Option Value) (a0 : Nat) (s : List Value) (h : am_H), am_E P 130 194 [l0, some (.ref a0), l2, l3] s h = am_E P 130 195 [l0, some (.ref a0), l2, l3] (.ref a0 :: s) h) ∧
  (∀ (P : Nat × Nat) (l1 : Option Value) (l2 : Option Value) (l3 : Option Value) (a0 : Nat) (s : List Value) (h : am_H), am_E P 130 195 [some (.ref a0), l1, l2, l3] s h = am_E P 130 196 [some (.ref a0), l1, l2, l3] (.ref a0 :: s) h) ∧
  (∀ (P : Nat × Nat) (l0 : Option Value) (l1 : Option Value) (l2 : Option Value) (x0 : Int32) (s : List Value) (h : am_H), am_E P 130 196 [l0, l1, l2, some (.int x0)] s h = am_E P 130 197 [l0, l1, l2, some (.int x0)] (.int x0 :: s) h) ∧
  (∀ (P : Nat × Nat) (l0 : Option Value) (l1 : Option Value) (l2 : Option Value) (l3 : Option Value) (s : List Value) (h : am_H), am_E P 130 197 [l0, l1, l2, l3] s h = am_E P 130 198 [l0, l1, l2, l3] (.int 1 :: s) h) ∧
  (∀ (P : Nat × Nat) (l0 : Option Value) (l1 : Option Value) (l2 : Option Value) (l3 : Option Value) (x0 : Int32) (x1 : Int32) (s : List Value) (h : am_H), am_E P 130 198 [l0, l1, l2, l3] (.int x1 :: .int x0 :: s) h = am_E P 130 199 [l0, l1, l2, l3] (.int (x0 + x1) :: s) h) ∧
  (∀ (P : Nat × Nat) (l0 : Option Value) (l1 : Option Value) (l2 : Option Value) (l3 : Option Value) (x0 : Int32) (a0 : Nat) (s : List Value) (h : am_H), am_E P 130 199 [l0, l1, l2, l3] (.int x0 :: .ref a0 :: s) h = (am_iald h a0 x0).bind (fun v => am_E P 130 200 [l0, l1, l2, l3] (.int v :: s) h)) ∧
  (∀ (P : Nat × Nat) (l0 : Option Value) (l1 : Option Value) (l2 : Option Value) (l3 : Option Value) (a0 : Nat) (x0 : Int32) (h : am_H), am_E P 130 200 [l0, l1, l2, l3] [.int x0, .ref a0] h = if am_cls h a0 = some 8 then (am_E P 35 0 [some (.ref a0), some (.int x0), none] [] h).bind (fun q => am_E P 130 203 [l0, l1, l2, l3] (q.1.toList ++ []) q.2) else none) ∧
  (∀ (P : Nat × Nat) (l0 : Option Value) (l1 : Option Value) (l3 : Option Value) (a0 : Nat) (s : List Value) (h : am_H), am_E P 130 203 [l0, l1, some (.ref a0), l3] s h = am_E P 130 204 [l0, l1, some (.ref a0), l3] (.ref a0 :: s) h) ∧
  (∀ (P : Nat × Nat) (l1 : Option Value) (l2 : Option Value) (l3 : Option Value) (a0 : Nat) (s : List Value) (h : am_H), am_E P 130 204 [some (.ref a0), l1, l2, l3] s h = am_E P 130 205 [some (.ref a0), l1, l2, l3] (.ref a0 :: s) h) ∧
  (∀ (P : Nat × Nat) (l0 : Option Value) (l1 : Option Value) (l2 : Option Value) (x0 : Int32) (s : List Value) (h : am_H), am_E P 130 205 [l0, l1, l2, some (.int x0)] s h = am_E P 130 206 [l0, l1, l2, some (.int x0)] (.int x0 :: s) h) ∧
  (∀ (P : Nat × Nat) (l0 : Option Value) (l1 : Option Value) (l2 : Option Value) (l3 : Option Value) (s : List Value) (h : am_H), am_E P 130 206 [l0, l1, l2, l3] s h = am_E P 130 207 [l0, l1, l2, l3] (.int 1 :: s) h) ∧
  (∀ (P : Nat × Nat) (l0 : Option Value) (l1 : Option Value) (l2 : Option Value) (l3 : Option Value) (x0 : Int32) (x1 : Int32) (s : List Value) (h : am_H), am_E P 130 207 [l0, l1, l2, l3] (.int x1 :: .int x0 :: s) h = am_E P 130 208 [l0, l1, l2, l3] (.int (x0 + x1) :: s) h) ∧
  (∀ (P : Nat × Nat) (l0 : Option Value) (l1 : Option Value) (l2 : Option Value) (l3 : Option Value) (x0 : Int32) (a0 : Nat) (s : List Value) (h : am_H), am_E P 130 208 [l0, l1, l2, l3] (.int x0 :: .ref a0 :: s) h = (am_iald h a0 x0).bind (fun v => am_E P 130 209 [l0, l1, l2, l3] (.int v :: s) h)) ∧
  (∀ (P : Nat × Nat) (l0 : Option Value) (l1 : Option Value) (l2 : Option Value) (l3 : Option Value) (a0 : Nat) (x0 : Int32) (v0 : Value) (h : am_H), am_E P 130 209 [l0, l1, l2, l3] [.int x0, .ref a0, v0] h = if am_cls h a0 = some 9 then (am_E P 87 0 [some (.ref a0), some (.int x0), none] [] h).bind (fun q => am_E P 130 212 [l0, l1, l2, l3] (q.1.toList ++ [v0]) q.2) else none) ∧
  (∀ (P : Nat × Nat) (l0 : Option Value) (l1 : Option Value) (l2 : Option Value) (l3 : Option Value) (x0 : Int32) (x1 : Int32) (s : List Value) (h : am_H), am_E P 130 212 [l0, l1, l2, l3] (.int x1 :: .int x0 :: s) h = if x0 = x1 then am_E P 130 690 [l0, l1, l2, l3] s h else am_E P 130 215 [l0, l1, l2, l3] s h) ∧
  (∀ (P : Nat × Nat) (l0 : Option Value) (l1 : Option Value) (l2 : Option Value) (l3 : Option Value) (s : List Value) (h : am_H), am_E P 130 215 [l0, l1, l2, l3] s h = am_E P 130 216 [l0, l1, l2, l3] (.int 0 :: s) h) ∧
  (∀ (P : Nat × Nat) (l0 : Option Value) (l1 : Option Value) (l2 : Option Value) (l3 : Option Value) (x0 : Int32) (h : am_H), am_E P 130 216 [l0, l1, l2, l3] [.int x0] h = if x0 = 0 ∨ x0 = 1 then some (some (.int x0), h) else none) :=
  ⟨fun _ _ _ _ _ _ _ => er_go rfl rfl,
  fun _ _ _ _ _ _ _ => er_go rfl rfl,
  fun _ _ _ _ _ _ _ => er_go rfl rfl,
  fun _ _ _ _ _ _ _ => er_go rfl rfl,
  fun _ _ _ _ _ _ _ _ _ => er_go rfl rfl,
  fun _ _ _ _ _ _ _ _ _ => er_iald rfl,
  fun _ _ _ _ _ _ _ _ => er_callV rfl rfl rfl rfl,
  fun _ _ _ _ _ _ _ => er_go rfl rfl,
  fun _ _ _ _ _ _ _ => er_go rfl rfl,
  fun _ _ _ _ _ _ _ => er_go rfl rfl,
  fun _ _ _ _ _ _ _ => er_go rfl rfl,
  fun _ _ _ _ _ _ _ _ _ => er_go rfl rfl,
  fun _ _ _ _ _ _ _ _ _ => er_iald rfl,
  fun _ _ _ _ _ _ _ _ _ => er_callV rfl rfl rfl rfl,
  fun _ _ _ _ _ _ _ _ _ => er_ic_eq rfl,
  fun _ _ _ _ _ _ _ => er_go rfl rfl,
  fun _ _ _ _ _ _ _ => er_retZ rfl rfl⟩
set_option maxRecDepth 100000 in
theorem q130_c3 : (∀ (P : Nat × Nat) (l0 : Option Value) (l2 : Option Value) (l3 : Option Value) (a0 : Nat) (s : List Value) (h : am_H), am_E P 130 217 [l0, some (.ref a0), l2, l3] s h = am_E P 130 218 [l0, some (.ref a0), l2, l3] (.ref a0 :: s) h) ∧
  (∀ (P : Nat × Nat) (l1 : Option Value) (l2 : Option Value) (l3 : Option Value) (a0 : Nat) (s : List Value) (h : am_H), am_E P 130 218 [some (.ref a0), l1, l2, l3] s h = am_E P 130 219 [some (.ref a0), l1, l2, l3] (.ref a0 :: s) h) ∧
  (∀ (P : Nat × Nat) (l0 : Option Value) (l1 : Option Value) (l2 : Option Value) (x0 : Int32) (s : List Value) (h : am_H), am_E P 130 219 [l0, l1, l2, some (.int x0)] s h = am_E P 130 220 [l0, l1, l2, some (.int x0)] (.int x0 :: s) h) ∧
  (∀ (P : Nat × Nat) (l0 : Option Value) (l1 : Option Value) (l2 : Option Value) (l3 : Option Value) (s : List Value) (h : am_H), am_E P 130 220 [l0, l1, l2, l3] s h = am_E P 130 221 [l0, l1, l2, l3] (.int 1 :: s) h) ∧
  (∀ (P : Nat × Nat) (l0 : Option Value) (l1 : Option Value) (l2 : Option Value) (l3 : Option Value) (x0 : Int32) (x1 : Int32) (s : List Value) (h : am_H), am_E P 130 221 [l0, l1, l2, l3] (.int x1 :: .int x0 :: s) h = am_E P 130 222 [l0, l1, l2, l3] (.int (x0 + x1) :: s) h) ∧
  (∀ (P : Nat × Nat) (l0 : Option Value) (l1 : Option Value) (l2 : Option Value) (l3 : Option Value) (x0 : Int32) (a0 : Nat) (s : List Value) (h : am_H), am_E P 130 222 [l0, l1, l2, l3] (.int x0 :: .ref a0 :: s) h = (am_iald h a0 x0).bind (fun v => am_E P 130 223 [l0, l1, l2, l3] (.int v :: s) h)) ∧
  (∀ (P : Nat × Nat) (l0 : Option Value) (l1 : Option Value) (l2 : Option Value) (l3 : Option Value) (a0 : Nat) (x0 : Int32) (h : am_H), am_E P 130 223 [l0, l1, l2, l3] [.int x0, .ref a0] h = if am_cls h a0 = some 8 then (am_E P 36 0 [some (.ref a0), some (.int x0)] [] h).bind (fun q => am_E P 130 226 [l0, l1, l2, l3] (q.1.toList ++ []) q.2) else none) ∧
  (∀ (P : Nat × Nat) (l0 : Option Value) (l1 : Option Value) (l3 : Option Value) (a0 : Nat) (s : List Value) (h : am_H), am_E P 130 226 [l0, l1, some (.ref a0), l3] s h = am_E P 130 227 [l0, l1, some (.ref a0), l3] (.ref a0 :: s) h) ∧
  (∀ (P : Nat × Nat) (l1 : Option Value) (l2 : Option Value) (l3 : Option Value) (a0 : Nat) (s : List Value) (h : am_H), am_E P 130 227 [some (.ref a0), l1, l2, l3] s h = am_E P 130 228 [some (.ref a0), l1, l2, l3] (.ref a0 :: s) h) ∧
  (∀ (P : Nat × Nat) (l0 : Option Value) (l1 : Option Value) (l2 : Option Value) (x0 : Int32) (s : List Value) (h : am_H), am_E P 130 228 [l0, l1, l2, some (.int x0)] s h = am_E P 130 229 [l0, l1, l2, some (.int x0)] (.int x0 :: s) h) ∧
  (∀ (P : Nat × Nat) (l0 : Option Value) (l1 : Option Value) (l2 : Option Value) (l3 : Option Value) (s : List Value) (h : am_H), am_E P 130 229 [l0, l1, l2, l3] s h = am_E P 130 230 [l0, l1, l2, l3] (.int 1 :: s) h) ∧
  (∀ (P : Nat × Nat) (l0 : Option Value) (l1 : Option Value) (l2 : Option Value) (l3 : Option Value) (x0 : Int32) (x1 : Int32) (s : List Value) (h : am_H), am_E P 130 230 [l0, l1, l2, l3] (.int x1 :: .int x0 :: s) h = am_E P 130 231 [l0, l1, l2, l3] (.int (x0 + x1) :: s) h) ∧
  (∀ (P : Nat × Nat) (l0 : Option Value) (l1 : Option Value) (l2 : Option Value) (l3 : Option Value) (x0 : Int32) (a0 : Nat) (s : List Value) (h : am_H), am_E P 130 231 [l0, l1, l2, l3] (.int x0 :: .ref a0 :: s) h = (am_iald h a0 x0).bind (fun v => am_E P 130 232 [l0, l1, l2, l3] (.int v :: s) h)) ∧
  (∀ (P : Nat × Nat) (l0 : Option Value) (l1 : Option Value) (l2 : Option Value) (l3 : Option Value) (a0 : Nat) (x0 : Int32) (v0 : Value) (h : am_H), am_E P 130 232 [l0, l1, l2, l3] [.int x0, .ref a0, v0] h = if am_cls h a0 = some 9 then (am_E P 88 0 [some (.ref a0), some (.int x0), none, none] [] h).bind (fun q => am_E P 130 235 [l0, l1, l2, l3] (q.1.toList ++ [v0]) q.2) else none) ∧
  (∀ (P : Nat × Nat) (l0 : Option Value) (l1 : Option Value) (l2 : Option Value) (l3 : Option Value) (x0 : Int32) (x1 : Int32) (s : List Value) (h : am_H), am_E P 130 235 [l0, l1, l2, l3] (.int x1 :: .int x0 :: s) h = if x0 = x1 then am_E P 130 690 [l0, l1, l2, l3] s h else am_E P 130 238 [l0, l1, l2, l3] s h) ∧
  (∀ (P : Nat × Nat) (l0 : Option Value) (l1 : Option Value) (l2 : Option Value) (l3 : Option Value) (s : List Value) (h : am_H), am_E P 130 238 [l0, l1, l2, l3] s h = am_E P 130 239 [l0, l1, l2, l3] (.int 0 :: s) h) ∧
  (∀ (P : Nat × Nat) (l0 : Option Value) (l1 : Option Value) (l2 : Option Value) (l3 : Option Value) (x0 : Int32) (h : am_H), am_E P 130 239 [l0, l1, l2, l3] [.int x0] h = if x0 = 0 ∨ x0 = 1 then some (some (.int x0), h) else none) :=
  ⟨fun _ _ _ _ _ _ _ => er_go rfl rfl,
  fun _ _ _ _ _ _ _ => er_go rfl rfl,
  fun _ _ _ _ _ _ _ => er_go rfl rfl,
  fun _ _ _ _ _ _ _ => er_go rfl rfl,
  fun _ _ _ _ _ _ _ _ _ => er_go rfl rfl,
  fun _ _ _ _ _ _ _ _ _ => er_iald rfl,
  fun _ _ _ _ _ _ _ _ => er_callV rfl rfl rfl rfl,
  fun _ _ _ _ _ _ _ => er_go rfl rfl,
  fun _ _ _ _ _ _ _ => er_go rfl rfl,
  fun _ _ _ _ _ _ _ => er_go rfl rfl,
  fun _ _ _ _ _ _ _ => er_go rfl rfl,
  fun _ _ _ _ _ _ _ _ _ => er_go rfl rfl,
  fun _ _ _ _ _ _ _ _ _ => er_iald rfl,
  fun _ _ _ _ _ _ _ _ _ => er_callV rfl rfl rfl rfl,
  fun _ _ _ _ _ _ _ _ _ => er_ic_eq rfl,
  fun _ _ _ _ _ _ _ => er_go rfl rfl,
  fun _ _ _ _ _ _ _ => er_retZ rfl rfl⟩
set_option maxRecDepth 100000 in
theorem q130_c4 : (∀ (P : Nat × Nat) (l0 : Option Value) (l2 : Option Value) (l3 : Option Value) (a0 : Nat) (s : List Value) (h : am_H), am_E P 130 240 [l0, some (.ref a0), l2, l3] s h = am_E P 130 241 [l0, some (.ref a0), l2, l3] (.ref a0 :: s) h) ∧
  (∀ (P : Nat × Nat) (l0 : Option Value) (l1 : Option Value) (l2 : Option Value) (l3 : Option Value) (a0 : Nat) (h : am_H), am_E P 130 241 [l0, l1, l2, l3] [.ref a0] h = if am_cls h a0 = some 8 then (am_E P 37 0 [some (.ref a0)] [] h).bind (fun q => am_E P 130 244 [l0, l1, l2, l3] (q.1.toList ++ []) q.2) else none) ∧
  (∀ (P : Nat × Nat) (l0 : Option Value) (l1 : Option Value) (l3 : Option Value) (a0 : Nat) (s : List Value) (h : am_H), am_E P 130 244 [l0, l1, some (.ref a0), l3] s h = am_E P 130 245 [l0, l1, some (.ref a0), l3] (.ref a0 :: s) h) ∧
  (∀ (P : Nat × Nat) (l0 : Option Value) (l1 : Option Value) (l2 : Option Value) (l3 : Option Value) (a0 : Nat) (v0 : Value) (h : am_H), am_E P 130 245 [l0, l1, l2, l3] [.ref a0, v0] h = if am_cls h a0 = some 9 then (am_E P 89 0 [some (.ref a0)] [] h).bind (fun q => am_E P 130 248 [l0, l1, l2, l3] (q.1.toList ++ [v0]) q.2) else none) ∧
  (∀ (P : Nat × Nat) (l0 : Option Value) (l1 : Option Value) (l2 : Option Value) (l3 : Option Value) (x0 : Int32) (x1 : Int32) (s : List Value) (h : am_H), am_E P 130 248 [l0, l1, l2, l3] (.int x1 :: .int x0 :: s) h = if x0 = x1 then am_E P 130 690 [l0, l1, l2, l3] s h else am_E P 130 251 [l0, l1, l2, l3] s h) ∧
  (∀ (P : Nat × Nat) (l0 : Option Value) (l1 : Option Value) (l2 : Option Value) (l3 : Option Value) (s : List Value) (h : am_H), am_E P 130 251 [l0, l1, l2, l3] s h = am_E P 130 252 [l0, l1, l2, l3] (.int 0 :: s) h) ∧
  (∀ (P : Nat × Nat) (l0 : Option Value) (l1 : Option Value) (l2 : Option Value) (l3 : Option Value) (x0 : Int32) (h : am_H), am_E P 130 252 [l0, l1, l2, l3] [.int x0] h = if x0 = 0 ∨ x0 = 1 then some (some (.int x0), h) else none) :=
  ⟨fun _ _ _ _ _ _ _ => er_go rfl rfl,
  fun _ _ _ _ _ _ _ => er_callV rfl rfl rfl rfl,
  fun _ _ _ _ _ _ _ => er_go rfl rfl,
  fun _ _ _ _ _ _ _ _ => er_callV rfl rfl rfl rfl,
  fun _ _ _ _ _ _ _ _ _ => er_ic_eq rfl,
  fun _ _ _ _ _ _ _ => er_go rfl rfl,
  fun _ _ _ _ _ _ _ => er_retZ rfl rfl⟩
set_option maxRecDepth 100000 in
theorem q130_c5 : (∀ (P : Nat × Nat) (l0 : Option Value) (l2 : Option Value) (l3 : Option Value) (a0 : Nat) (s : List Value) (h : am_H), am_E P 130 253 [l0, some (.ref a0), l2, l3] s h = am_E P 130 254 [l0, some (.ref a0), l2, l3] (.ref a0 :: s) h) ∧
  (∀ (P : Nat × Nat) (l1 : Option Value) (l2 : Option Value) (l3 : Option Value) (a0 : Nat) (s : List Value) (h : am_H), am_E P 130 254 [some (.ref a0), l1, l2, l3] s h = am_E P 130 255 [some (.ref a0), l1, l2, l3] (.ref a0 :: s) h) ∧
  (∀ (P : Nat × Nat) (l0 : Option Value) (l1 : Option Value) (l2 : Option Value) (x0 : Int32) (s : List Value) (h : am_H), am_E P 130 255 [l0, l1, l2, some (.int x0)] s h = am_E P 130 256 [l0, l1, l2, some (.int x0)] (.int x0 :: s) h) ∧
  (∀ (P : Nat × Nat) (l0 : Option Value) (l1 : Option Value) (l2 : Option Value) (l3 : Option Value) (s : List Value) (h : am_H), am_E P 130 256 [l0, l1, l2, l3] s h = am_E P 130 257 [l0, l1, l2, l3] (.int 1 :: s) h) ∧
  (∀ (P : Nat × Nat) (l0 : Option Value) (l1 : Option Value) (l2 : Option Value) (l3 : Option Value) (x0 : Int32) (x1 : Int32) (s : List Value) (h : am_H), am_E P 130 257 [l0, l1, l2, l3] (.int x1 :: .int x0 :: s) h = am_E P 130 258 [l0, l1, l2, l3] (.int (x0 + x1) :: s) h) ∧
  (∀ (P : Nat × Nat) (l0 : Option Value) (l1 : Option Value) (l2 : Option Value) (l3 : Option Value) (x0 : Int32) (a0 : Nat) (s : List Value) (h : am_H), am_E P 130 258 [l0, l1, l2, l3] (.int x0 :: .ref a0 :: s) h = (am_iald h a0 x0).bind (fun v => am_E P 130 259 [l0, l1, l2, l3] (.int v :: s) h)) ∧
  (∀ (P : Nat × Nat) (l0 : Option Value) (l1 : Option Value) (l2 : Option Value) (l3 : Option Value) (a0 : Nat) (x0 : Int32) (h : am_H), am_E P 130 259 [l0, l1, l2, l3] [.int x0, .ref a0] h = if am_cls h a0 = some 8 then (am_E P 38 0 [some (.ref a0), some (.int x0), none] [] h).bind (fun q => am_E P 130 262 [l0, l1, l2, l3] (q.1.toList ++ []) q.2) else none) ∧
  (∀ (P : Nat × Nat) (l0 : Option Value) (l1 : Option Value) (l3 : Option Value) (a0 : Nat) (s : List Value) (h : am_H), am_E P 130 262 [l0, l1, some (.ref a0), l3] s h = am_E P 130 263 [l0, l1, some (.ref a0), l3] (.ref a0 :: s) h) ∧
  (∀ (P : Nat × Nat) (l1 : Option Value) (l2 : Option Value) (l3 : Option Value) (a0 : Nat) (s : List Value) (h : am_H), am_E P 130 263 [some (.ref a0), l1, l2, l3] s h = am_E P 130 264 [some (.ref a0), l1, l2, l3] (.ref a0 :: s) h) ∧
  (∀ (P : Nat × Nat) (l0 : Option Value) (l1 : Option Value) (l2 : Option Value) (x0 : Int32) (s : List Value) (h : am_H), am_E P 130 264 [l0, l1, l2, some (.int x0)] s h = am_E P 130 265 [l0, l1, l2, some (.int x0)] (.int x0 :: s) h) ∧
  (∀ (P : Nat × Nat) (l0 : Option Value) (l1 : Option Value) (l2 : Option Value) (l3 : Option Value) (s : List Value) (h : am_H), am_E P 130 265 [l0, l1, l2, l3] s h = am_E P 130 266 [l0, l1, l2, l3] (.int 1 :: s) h) ∧
  (∀ (P : Nat × Nat) (l0 : Option Value) (l1 : Option Value) (l2 : Option Value) (l3 : Option Value) (x0 : Int32) (x1 : Int32) (s : List Value) (h : am_H), am_E P 130 266 [l0, l1, l2, l3] (.int x1 :: .int x0 :: s) h = am_E P 130 267 [l0, l1, l2, l3] (.int (x0 + x1) :: s) h) ∧
  (∀ (P : Nat × Nat) (l0 : Option Value) (l1 : Option Value) (l2 : Option Value) (l3 : Option Value) (x0 : Int32) (a0 : Nat) (s : List Value) (h : am_H), am_E P 130 267 [l0, l1, l2, l3] (.int x0 :: .ref a0 :: s) h = (am_iald h a0 x0).bind (fun v => am_E P 130 268 [l0, l1, l2, l3] (.int v :: s) h)) ∧
  (∀ (P : Nat × Nat) (l0 : Option Value) (l1 : Option Value) (l2 : Option Value) (l3 : Option Value) (a0 : Nat) (x0 : Int32) (v0 : Value) (h : am_H), am_E P 130 268 [l0, l1, l2, l3] [.int x0, .ref a0, v0] h = if am_cls h a0 = some 9 then (am_E P 95 0 [some (.ref a0), some (.int x0), none, none, none] [] h).bind (fun q => am_E P 130 271 [l0, l1, l2, l3] (q.1.toList ++ [v0]) q.2) else none) ∧
  (∀ (P : Nat × Nat) (l0 : Option Value) (l1 : Option Value) (l2 : Option Value) (l3 : Option Value) (x0 : Int32) (x1 : Int32) (s : List Value) (h : am_H), am_E P 130 271 [l0, l1, l2, l3] (.int x1 :: .int x0 :: s) h = if x0 = x1 then am_E P 130 690 [l0, l1, l2, l3] s h else am_E P 130 274 [l0, l1, l2, l3] s h) ∧
  (∀ (P : Nat × Nat) (l0 : Option Value) (l1 : Option Value) (l2 : Option Value) (l3 : Option Value) (s : List Value) (h : am_H), am_E P 130 274 [l0, l1, l2, l3] s h = am_E P 130 275 [l0, l1, l2, l3] (.int 0 :: s) h) ∧
  (∀ (P : Nat × Nat) (l0 : Option Value) (l1 : Option Value) (l2 : Option Value) (l3 : Option Value) (x0 : Int32) (h : am_H), am_E P 130 275 [l0, l1, l2, l3] [.int x0] h = if x0 = 0 ∨ x0 = 1 then some (some (.int x0), h) else none) :=
  ⟨fun _ _ _ _ _ _ _ => er_go rfl rfl,
  fun _ _ _ _ _ _ _ => er_go rfl rfl,
  fun _ _ _ _ _ _ _ => er_go rfl rfl,
  fun _ _ _ _ _ _ _ => er_go rfl rfl,
  fun _ _ _ _ _ _ _ _ _ => er_go rfl rfl,
  fun _ _ _ _ _ _ _ _ _ => er_iald rfl,
  fun _ _ _ _ _ _ _ _ => er_callV rfl rfl rfl rfl,
  fun _ _ _ _ _ _ _ => er_go rfl rfl,
  fun _ _ _ _ _ _ _ => er_go rfl rfl,
  fun _ _ _ _ _ _ _ => er_go rfl rfl,
  fun _ _ _ _ _ _ _ => er_go rfl rfl,
  fun _ _ _ _ _ _ _ _ _ => er_go rfl rfl,
  fun _ _ _ _ _ _ _ _ _ => er_iald rfl,
  fun _ _ _ _ _ _ _ _ _ => er_callV rfl rfl rfl rfl,
  fun _ _ _ _ _ _ _ _ _ => er_ic_eq rfl,
  fun _ _ _ _ _ _ _ => er_go rfl rfl,
  fun _ _ _ _ _ _ _ => er_retZ rfl rfl⟩
set_option maxRecDepth 100000 in
theorem q130_c6 : (∀ (P : Nat × Nat) (l0 : Option Value) (l2 : Option Value) (l3 : Option Value) (a0 : Nat) (s : List Value) (h : am_H), am_E P 130 276 [l0, some (.ref a0), l2, l3] s h = am_E P 130 277 [l0, some (.ref a0), l2, l3] (.ref a0 :: s) h) ∧
  (∀ (P : Nat × Nat) (l1 : Option Value) (l2 : Option Value) (l3 : Option Value) (a0 : Nat) (s : List Value) (h : am_H), am_E P 130 277 [some (.ref a0), l1, l2, l3] s h = am_E P 130 278 [some (.ref a0), l1, l2, l3] (.ref a0 :: s) h) ∧
  (∀ (P : Nat × Nat) (l0 : Option Value) (l1 : Option Value) (l2 : Option Value) (x0 : Int32) (s : List Value) (h : am_H), am_E P 130 278 [l0, l1, l2, some (.int x0)] s h = am_E P 130 279 [l0, l1, l2, some (.int x0)] (.int x0 :: s) h) ∧
  (∀ (P : Nat × Nat) (l0 : Option Value) (l1 : Option Value) (l2 : Option Value) (l3 : Option Value) (s : List Value) (h : am_H), am_E P 130 279 [l0, l1, l2, l3] s h = am_E P 130 280 [l0, l1, l2, l3] (.int 1 :: s) h) ∧
  (∀ (P : Nat × Nat) (l0 : Option Value) (l1 : Option Value) (l2 : Option Value) (l3 : Option Value) (x0 : Int32) (x1 : Int32) (s : List Value) (h : am_H), am_E P 130 280 [l0, l1, l2, l3] (.int x1 :: .int x0 :: s) h = am_E P 130 281 [l0, l1, l2, l3] (.int (x0 + x1) :: s) h) ∧
  (∀ (P : Nat × Nat) (l0 : Option Value) (l1 : Option Value) (l2 : Option Value) (l3 : Option Value) (x0 : Int32) (a0 : Nat) (s : List Value) (h : am_H), am_E P 130 281 [l0, l1, l2, l3] (.int x0 :: .ref a0 :: s) h = (am_iald h a0 x0).bind (fun v => am_E P 130 282 [l0, l1, l2, l3] (.int v :: s) h)) ∧
  (∀ (P : Nat × Nat) (l0 : Option Value) (l1 : Option Value) (l2 : Option Value) (l3 : Option Value) (a0 : Nat) (x0 : Int32) (h : am_H), am_E P 130 282 [l0, l1, l2, l3] [.int x0, .ref a0] h = if am_cls h a0 = some 8 then (am_E P 39 0 [some (.ref a0), some (.int x0), none] [] h).bind (fun q => am_E P 130 285 [l0, l1, l2, l3] (q.1.toList ++ []) q.2) else none) ∧
  (∀ (P : Nat × Nat) (l0 : Option Value) (l1 : Option Value) (l3 : Option Value) (a0 : Nat) (s : List Value) (h : am_H), am_E P 130 285 [l0, l1, some (.ref a0), l3] s h = am_E P 130 286 [l0, l1, some (.ref a0), l3] (.ref a0 :: s) h) ∧
  (∀ (P : Nat × Nat) (l1 : Option Value) (l2 : Option Value) (l3 : Option Value) (a0 : Nat) (s : List Value) (h : am_H), am_E P 130 286 [some (.ref a0), l1, l2, l3] s h = am_E P 130 287 [some (.ref a0), l1, l2, l3] (.ref a0 :: s) h) ∧
  (∀ (P : Nat × Nat) (l0 : Option Value) (l1 : Option Value) (l2 : Option Value) (x0 : Int32) (s : List Value) (h : am_H), am_E P 130 287 [l0, l1, l2, some (.int x0)] s h = am_E P 130 288 [l0, l1, l2, some (.int x0)] (.int x0 :: s) h) ∧
  (∀ (P : Nat × Nat) (l0 : Option Value) (l1 : Option Value) (l2 : Option Value) (l3 : Option Value) (s : List Value) (h : am_H), am_E P 130 288 [l0, l1, l2, l3] s h = am_E P 130 289 [l0, l1, l2, l3] (.int 1 :: s) h) ∧
  (∀ (P : Nat × Nat) (l0 : Option Value) (l1 : Option Value) (l2 : Option Value) (l3 : Option Value) (x0 : Int32) (x1 : Int32) (s : List Value) (h : am_H), am_E P 130 289 [l0, l1, l2, l3] (.int x1 :: .int x0 :: s) h = am_E P 130 290 [l0, l1, l2, l3] (.int (x0 + x1) :: s) h) ∧
  (∀ (P : Nat × Nat) (l0 : Option Value) (l1 : Option Value) (l2 : Option Value) (l3 : Option Value) (x0 : Int32) (a0 : Nat) (s : List Value) (h : am_H), am_E P 130 290 [l0, l1, l2, l3] (.int x0 :: .ref a0 :: s) h = (am_iald h a0 x0).bind (fun v => am_E P 130 291 [l0, l1, l2, l3] (.int v :: s) h)) ∧
  (∀ (P : Nat × Nat) (l0 : Option Value) (l1 : Option Value) (l2 : Option Value) (l3 : Option Value) (a0 : Nat) (x0 : Int32) (v0 : Value) (h : am_H), am_E P 130 291 [l0, l1, l2, l3] [.int x0, .ref a0, v0] h = if am_cls h a0 = some 9 then (am_E P 96 0 [some (.ref a0), some (.int x0), none] [] h).bind (fun q => am_E P 130 294 [l0, l1, l2, l3] (q.1.toList ++ [v0]) q.2) else none) ∧
  (∀ (P : Nat × Nat) (l0 : Option Value) (l1 : Option Value) (l2 : Option Value) (l3 : Option Value) (x0 : Int32) (x1 : Int32) (s : List Value) (h : am_H), am_E P 130 294 [l0, l1, l2, l3] (.int x1 :: .int x0 :: s) h = if x0 = x1 then am_E P 130 690 [l0, l1, l2, l3] s h else am_E P 130 297 [l0, l1, l2, l3] s h) ∧
  (∀ (P : Nat × Nat) (l0 : Option Value) (l1 : Option Value) (l2 : Option Value) (l3 : Option Value) (s : List Value) (h : am_H), am_E P 130 297 [l0, l1, l2, l3] s h = am_E P 130 298 [l0, l1, l2, l3] (.int 0 :: s) h) ∧
  (∀ (P : Nat × Nat) (l0 : Option Value) (l1 : Option Value) (l2 : Option Value) (l3 : Option Value) (x0 : Int32) (h : am_H), am_E P 130 298 [l0, l1, l2, l3] [.int x0] h = if x0 = 0 ∨ x0 = 1 then some (some (.int x0), h) else none) :=
  ⟨fun _ _ _ _ _ _ _ => er_go rfl rfl,
  fun _ _ _ _ _ _ _ => er_go rfl rfl,
  fun _ _ _ _ _ _ _ => er_go rfl rfl,
  fun _ _ _ _ _ _ _ => er_go rfl rfl,
  fun _ _ _ _ _ _ _ _ _ => er_go rfl rfl,
  fun _ _ _ _ _ _ _ _ _ => er_iald rfl,
  fun _ _ _ _ _ _ _ _ => er_callV rfl rfl rfl rfl,
  fun _ _ _ _ _ _ _ => er_go rfl rfl,
  fun _ _ _ _ _ _ _ => er_go rfl rfl,
  fun _ _ _ _ _ _ _ => er_go rfl rfl,
  fun _ _ _ _ _ _ _ => er_go rfl rfl,
  fun _ _ _ _ _ _ _ _ _ => er_go rfl rfl,
  fun _ _ _ _ _ _ _ _ _ => er_iald rfl,
  fun _ _ _ _ _ _ _ _ _ => er_callV rfl rfl rfl rfl,
  fun _ _ _ _ _ _ _ _ _ => er_ic_eq rfl,
  fun _ _ _ _ _ _ _ => er_go rfl rfl,
  fun _ _ _ _ _ _ _ => er_retZ rfl rfl⟩
set_option maxRecDepth 100000 in
theorem q130_c7 : (∀ (P : Nat × Nat) (l0 : Option Value) (l2 : Option Value) (l3 : Option Value) (a0 : Nat) (s : List Value) (h : am_H), am_E P 130 299 [l0, some (.ref a0), l2, l3] s h = am_E P 130 300 [l0, some (.ref a0), l2, l3] (.ref a0 :: s) h) ∧
  (∀ (P : Nat × Nat) (l1 : Option Value) (l2 : Option Value) (l3 : Option Value) (a0 : Nat) (s : List Value) (h : am_H), am_E P 130 300 [some (.ref a0), l1, l2, l3] s h = am_E P 130 301 [some (.ref a0), l1, l2, l3] (.ref a0 :: s) h) ∧
  (∀ (P : Nat × Nat) (l0 : Option Value) (l1 : Option Value) (l2 : Option Value) (x0 : Int32) (s : List Value) (h : am_H), am_E P 130 301 [l0, l1, l2, some (.int x0)] s h = am_E P 130 302 [l0, l1, l2, some (.int x0)] (.int x0 :: s) h) ∧
  (∀ (P : Nat × Nat) (l0 : Option Value) (l1 : Option Value) (l2 : Option Value) (l3 : Option Value) (s : List Value) (h : am_H), am_E P 130 302 [l0, l1, l2, l3] s h = am_E P 130 303 [l0, l1, l2, l3] (.int 1 :: s) h) ∧
  (∀ (P : Nat × Nat) (l0 : Option Value) (l1 : Option Value) (l2 : Option Value) (l3 : Option Value) (x0 : Int32) (x1 : Int32) (s : List Value) (h : am_H), am_E P 130 303 [l0, l1, l2, l3] (.int x1 :: .int x0 :: s) h = am_E P 130 304 [l0, l1, l2, l3] (.int (x0 + x1) :: s) h) ∧
  (∀ (P : Nat × Nat) (l0 : Option Value) (l1 : Option Value) (l2 : Option Value) (l3 : Option Value) (x0 : Int32) (a0 : Nat) (s : List Value) (h : am_H), am_E P 130 304 [l0, l1, l2, l3] (.int x0 :: .ref a0 :: s) h = (am_iald h a0 x0).bind (fun v => am_E P 130 305 [l0, l1, l2, l3] (.int v :: s) h)) ∧
  (∀ (P : Nat × Nat) (l1 : Option Value) (l2 : Option Value) (l3 : Option Value) (a0 : Nat) (s : List Value) (h : am_H), am_E P 130 305 [some (.ref a0), l1, l2, l3] s h = am_E P 130 306 [some (.ref a0), l1, l2, l3] (.ref a0 :: s) h) ∧
  (∀ (P : Nat × Nat) (l0 : Option Value) (l1 : Option Value) (l2 : Option Value) (x0 : Int32) (s : List Value) (h : am_H), am_E P 130 306 [l0, l1, l2, some (.int x0)] s h = am_E P 130 307 [l0, l1, l2, some (.int x0)] (.int x0 :: s) h) ∧
  (∀ (P : Nat × Nat) (l0 : Option Value) (l1 : Option Value) (l2 : Option Value) (l3 : Option Value) (s : List Value) (h : am_H), am_E P 130 307 [l0, l1, l2, l3] s h = am_E P 130 308 [l0, l1, l2, l3] (.int 2 :: s) h) ∧
  (∀ (P : Nat × Nat) (l0 : Option Value) (l1 : Option Value) (l2 : Option Value) (l3 : Option Value) (x0 : Int32) (x1 : Int32) (s : List Value) (h : am_H), am_E P 130 308 [l0, l1, l2, l3] (.int x1 :: .int x0 :: s) h = am_E P 130 309 [l0, l1, l2, l3] (.int (x0 + x1) :: s) h) ∧
  (∀ (P : Nat × Nat) (l0 : Option Value) (l1 : Option Value) (l2 : Option Value) (l3 : Option Value) (x0 : Int32) (a0 : Nat) (s : List Value) (h : am_H), am_E P 130 309 [l0, l1, l2, l3] (.int x0 :: .ref a0 :: s) h = (am_iald h a0 x0).bind (fun v => am_E P 130 310 [l0, l1, l2, l3] (.int v :: s) h)) ∧
  (∀ (P : Nat × Nat) (l0 : Option Value) (l1 : Option Value) (l2 : Option Value) (l3 : Option Value) (a0 : Nat) (x0 : Int32) (x1 : Int32) (h : am_H), am_E P 130 310 [l0, l1, l2, l3] [.int x1, .int x0, .ref a0] h = if am_cls h a0 = some 8 then (am_E P 40 0 [some (.ref a0), some (.int x0), some (.int x1), none, none] [] h).bind (fun q => am_E P 130 313 [l0, l1, l2, l3] (q.1.toList ++ []) q.2) else none) ∧
  (∀ (P : Nat × Nat) (l0 : Option Value) (l1 : Option Value) (l3 : Option Value) (a0 : Nat) (s : List Value) (h : am_H), am_E P 130 313 [l0, l1, some (.ref a0), l3] s h = am_E P 130 314 [l0, l1, some (.ref a0), l3] (.ref a0 :: s) h) ∧
  (∀ (P : Nat × Nat) (l1 : Option Value) (l2 : Option Value) (l3 : Option Value) (a0 : Nat) (s : List Value) (h : am_H), am_E P 130 314 [some (.ref a0), l1, l2, l3] s h = am_E P 130 315 [some (.ref a0), l1, l2, l3] (.ref a0 :: s) h) ∧
  (∀ (P : Nat × Nat) (l0 : Option Value) (l1 : Option Value) (l2 : Option Value) (x0 : Int32) (s : List Value) (h : am_H), am_E P 130 315 [l0, l1, l2, some (.int x0)] s h = am_E P 130 316 [l0, l1, l2, some (.int x0)] (.int x0 :: s) h) ∧
  (∀ (P : Nat × Nat) (l0 : Option Value) (l1 : Option Value) (l2 : Option Value) (l3 : Option Value) (s : List Value) (h : am_H), am_E P 130 316 [l0, l1, l2, l3] s h = am_E P 130 317 [l0, l1, l2, l3] (.int 1 :: s) h) ∧
  (∀ (P : Nat × Nat) (l0 : Option Value) (l1 : Option Value) (l2 : Option Value) (l3 : Option Value) (x0 : Int32) (x1 : Int32) (s : List Value) (h : am_H), am_E P 130 317 [l0, l1, l2, l3] (.int x1 :: .int x0 :: s) h = am_E P 130 318 [l0, l1, l2, l3] (.int (x0 + x1) :: s) h) ∧
  (∀ (P : Nat × Nat) (l0 : Option Value) (l1 : Option Value) (l2 : Option Value) (l3 : Option Value) (x0 : Int32) (a0 : Nat) (s : List Value) (h : am_H), am_E P 130 318 [l0, l1, l2, l3] (.int x0 :: .ref a0 :: s) h = (am_iald h a0 x0).bind (fun v => am_E P 130 319 [l0, l1, l2, l3] (.int v :: s) h)) ∧
  (∀ (P : Nat × Nat) (l1 : Option Value) (l2 : Option Value) (l3 : Option Value) (a0 : Nat) (s : List Value) (h : am_H), am_E P 130 319 [some (.ref a0), l1, l2, l3] s h = am_E P 130 320 [some (.ref a0), l1, l2, l3] (.ref a0 :: s) h) ∧
  (∀ (P : Nat × Nat) (l0 : Option Value) (l1 : Option Value) (l2 : Option Value) (x0 : Int32) (s : List Value) (h : am_H), am_E P 130 320 [l0, l1, l2, some (.int x0)] s h = am_E P 130 321 [l0, l1, l2, some (.int x0)] (.int x0 :: s) h) ∧
  (∀ (P : Nat × Nat) (l0 : Option Value) (l1 : Option Value) (l2 : Option Value) (l3 : Option Value) (s : List Value) (h : am_H), am_E P 130 321 [l0, l1, l2, l3] s h = am_E P 130 322 [l0, l1, l2, l3] (.int 2 :: s) h) ∧
  (∀ (P : Nat × Nat) (l0 : Option Value) (l1 : Option Value) (l2 : Option Value) (l3 : Option Value) (x0 : Int32) (x1 : Int32) (s : List Value) (h : am_H), am_E P 130 322 [l0, l1, l2, l3] (.int x1 :: .int x0 :: s) h = am_E P 130 323 [l0, l1, l2, l3] (.int (x0 + x1) :: s) h) ∧
  (∀ (P : Nat × Nat) (l0 : Option Value) (l1 : Option Value) (l2 : Option Value) (l3 : Option Value) (x0 : Int32) (a0 : Nat) (s : List Value) (h : am_H), am_E P 130 323 [l0, l1, l2, l3] (.int x0 :: .ref a0 :: s) h = (am_iald h a0 x0).bind (fun v => am_E P 130 324 [l0, l1, l2, l3] (.int v :: s) h)) ∧
  (∀ (P : Nat × Nat) (l0 : Option Value) (l1 : Option Value) (l2 : Option Value) (l3 : Option Value) (a0 : Nat) (x0 : Int32) (x1 : Int32) (v0 : Value) (h : am_H), am_E P 130 324 [l0, l1, l2, l3] [.int x1, .int x0, .ref a0, v0] h = if am_cls h a0 = some 9 then (am_E P 97 0 [some (.ref a0), some (.int x0), some (.int x1), none] [] h).bind (fun q => am_E P 130 327 [l0, l1, l2, l3] (q.1.toList ++ [v0]) q.2) else none) ∧
  (∀ (P : Nat × Nat) (l0 : Option Value) (l1 : Option Value) (l2 : Option Value) (l3 : Option Value) (x0 : Int32) (x1 : Int32) (s : List Value) (h : am_H), am_E P 130 327 [l0, l1, l2, l3] (.int x1 :: .int x0 :: s) h = if x0 = x1 then am_E P 130 690 [l0, l1, l2, l3] s h else am_E P 130 330 [l0, l1, l2, l3] s h) ∧
  (∀ (P : Nat × Nat) (l0 : Option Value) (l1 : Option Value) (l2 : Option Value) (l3 : Option Value) (s : List Value) (h : am_H), am_E P 130 330 [l0, l1, l2, l3] s h = am_E P 130 331 [l0, l1, l2, l3] (.int 0 :: s) h) ∧
  (∀ (P : Nat × Nat) (l0 : Option Value) (l1 : Option Value) (l2 : Option Value) (l3 : Option Value) (x0 : Int32) (h : am_H), am_E P 130 331 [l0, l1, l2, l3] [.int x0] h = if x0 = 0 ∨ x0 = 1 then some (some (.int x0), h) else none) :=
  ⟨fun _ _ _ _ _ _ _ => er_go rfl rfl,
  fun _ _ _ _ _ _ _ => er_go rfl rfl,
  fun _ _ _ _ _ _ _ => er_go rfl rfl,
  fun _ _ _ _ _ _ _ => er_go rfl rfl,
  fun _ _ _ _ _ _ _ _ _ => er_go rfl rfl,
  fun _ _ _ _ _ _ _ _ _ => er_iald rfl,
  fun _ _ _ _ _ _ _ => er_go rfl rfl,
  fun _ _ _ _ _ _ _ => er_go rfl rfl,
  fun _ _ _ _ _ _ _ => er_go rfl rfl,
  fun _ _ _ _ _ _ _ _ _ => er_go rfl rfl,
  fun _ _ _ _ _ _ _ _ _ => er_iald rfl,
  fun _ _ _ _ _ _ _ _ _ => er_callV rfl rfl rfl rfl,
  fun _ _ _ _ _ _ _ => er_go rfl rfl,
  fun _ _ _ _ _ _ _ => er_go rfl rfl,
  fun _ _ _ _ _ _ _ => er_go rfl rfl,
  fun _ _ _ _ _ _ _ => er_go rfl rfl,
  fun _ _ _ _ _ _ _ _ _ => er_go rfl rfl,
  fun _ _ _ _ _ _ _ _ _ => er_iald rfl,
  fun _ _ _ _ _ _ _ => er_go rfl rfl,
  fun _ _ _ _ _ _ _ => er_go rfl rfl,
  fun _ _ _ _ _ _ _ => er_go rfl rfl,
  fun _ _ _ _ _ _ _ _ _ => er_go rfl rfl,
  fun _ _ _ _ _ _ _ _ _ => er_iald rfl,
  fun _ _ _ _ _ _ _ _ _ _ => er_callV rfl rfl rfl rfl,
  fun _ _ _ _ _ _ _ _ _ => er_ic_eq rfl,
  fun _ _ _ _ _ _ _ => er_go rfl rfl,
  fun _ _ _ _ _ _ _ => er_retZ rfl rfl⟩
set_option maxRecDepth 100000 in
theorem q130_c8 : (∀ (P : Nat × Nat) (l0 : Option Value) (l2 : Option Value) (l3 : Option Value) (a0 : Nat) (s : List Value) (h : am_H), am_E P 130 332 [l0, some (.ref a0), l2, l3] s h = am_E P 130 333 [l0, some (.ref a0), l2, l3] (.ref a0 :: s) h) ∧
  (∀ (P : Nat × Nat) (l1 : Option Value) (l2 : Option Value) (l3 : Option Value) (a0 : Nat) (s : List Value) (h : am_H), am_E P 130 333 [some (.ref a0), l1, l2, l3] s h = am_E P 130 334 [some (.ref a0), l1, l2, l3] (.ref a0 :: s) h) ∧
  (∀ (P : Nat × Nat) (l0 : Option Value) (l1 : Option Value) (l2 : Option Value) (x0 : Int32) (s : List Value) (h : am_H), am_E P 130 334 [l0, l1, l2, some (.int x0)] s h = am_E P 130 335 [l0, l1, l2, some (.int x0)] (.int x0 :: s) h) ∧
  (∀ (P : Nat × Nat) (l0 : Option Value) (l1 : Option Value) (l2 : Option Value) (l3 : Option Value) (s : List Value) (h : am_H), am_E P 130 335 [l0, l1, l2, l3] s h = am_E P 130 336 [l0, l1, l2, l3] (.int 1 :: s) h) ∧
  (∀ (P : Nat × Nat) (l0 : Option Value) (l1 : Option Value) (l2 : Option Value) (l3 : Option Value) (x0 : Int32) (x1 : Int32) (s : List Value) (h : am_H), am_E P 130 336 [l0, l1, l2, l3] (.int x1 :: .int x0 :: s) h = am_E P 130 337 [l0, l1, l2, l3] (.int (x0 + x1) :: s) h) ∧
  (∀ (P : Nat × Nat) (l0 : Option Value) (l1 : Option Value) (l2 : Option Value) (l3 : Option Value) (x0 : Int32) (a0 : Nat) (s : List Value) (h : am_H), am_E P 130 337 [l0, l1, l2, l3] (.int x0 :: .ref a0 :: s) h = (am_iald h a0 x0).bind (fun v => am_E P 130 338 [l0, l1, l2, l3] (.int v :: s) h)) ∧
  (∀ (P : Nat × Nat) (l0 : Option Value) (l1 : Option Value) (l2 : Option Value) (l3 : Option Value) (a0 : Nat) (x0 : Int32) (h : am_H), am_E P 130 338 [l0, l1, l2, l3] [.int x0, .ref a0] h = if am_cls h a0 = some 8 then (am_E P 41 0 [some (.ref a0), some (.int x0)] [] h).bind (fun q => am_E P 130 341 [l0, l1, l2, l3] (q.1.toList ++ []) q.2) else none) ∧
  (∀ (P : Nat × Nat) (l0 : Option Value) (l1 : Option Value) (l3 : Option Value) (a0 : Nat) (s : List Value) (h : am_H), am_E P 130 341 [l0, l1, some (.ref a0), l3] s h = am_E P 130 342 [l0, l1, some (.ref a0), l3] (.ref a0 :: s) h) ∧
  (∀ (P : Nat × Nat) (l1 : Option Value) (l2 : Option Value) (l3 : Option Value) (a0 : Nat) (s : List Value) (h : am_H), am_E P 130 342 [some (.ref a0), l1, l2, l3] s h = am_E P 130 343 [some (.ref a0), l1, l2, l3] (.ref a0 :: s) h) ∧
  (∀ (P : Nat × Nat) (l0 : Option Value) (l1 : Option Value) (l2 : Option Value) (x0 : Int32) (s : List Value) (h : am_H), am_E P 130 343 [l0, l1, l2, some (.int x0)] s h = am_E P 130 344 [l0, l1, l2, some (.int x0)] (.int x0 :: s) h) ∧
  (∀ (P : Nat × Nat) (l0 : Option Value) (l1 : Option Value) (l2 : Option Value) (l3 : Option Value) (s : List Value) (h : am_H), am_E P 130 344 [l0, l1, l2, l3] s h = am_E P 130 345 [l0, l1, l2, l3] (.int 1 :: s) h) ∧
  (∀ (P : Nat × Nat) (l0 : Option Value) (l1 : Option Value) (l2 : Option Value) (l3 : Option Value) (x0 : Int32) (x1 : Int32) (s : List Value) (h : am_H), am_E P 130 345 [l0, l1, l2, l3] (.int x1 :: .int x0 :: s) h = am_E P 130 346 [l0, l1, l2, l3] (.int (x0 + x1) :: s) h) ∧
  (∀ (P : Nat × Nat) (l0 : Option Value) (l1 : Option Value) (l2 : Option Value) (l3 : Option Value) (x0 : Int32) (a0 : Nat) (s : List Value) (h : am_H), am_E P 130 346 [l0, l1, l2, l3] (.int x0 :: .ref a0 :: s) h = (am_iald h a0 x0).bind (fun v => am_E P 130 347 [l0, l1, l2, l3] (.int v :: s) h)) ∧
  (∀ (P : Nat × Nat) (l0 : Option Value) (l1 : Option Value) (l2 : Option Value) (l3 : Option Value) (a0 : Nat) (x0 : Int32) (v0 : Value) (h : am_H), am_E P 130 347 [l0, l1, l2, l3] [.int x0, .ref a0, v0] h = if am_cls h a0 = some 9 then (am_E P 98 0 [some (.ref a0), some (.int x0)] [] h).bind (fun q => am_E P 130 350 [l0, l1, l2, l3] (q.1.toList ++ [v0]) q.2) else none) ∧
  (∀ (P : Nat × Nat) (l0 : Option Value) (l1 : Option Value) (l2 : Option Value) (l3 : Option Value) (x0 : Int32) (x1 : Int32) (s : List Value) (h : am_H), am_E P 130 350 [l0, l1, l2, l3] (.int x1 :: .int x0 :: s) h = if x0 = x1 then am_E P 130 690 [l0, l1, l2, l3] s h else am_E P 130 353 [l0, l1, l2, l3] s h) ∧
  (∀ (P : Nat × Nat) (l0 : Option Value) (l1 : Option Value) (l2 : Option Value) (l3 : Option Value) (s : List Value) (h : am_H), am_E P 130 353 [l0, l1, l2, l3] s h = am_E P 130 354 [l0, l1, l2, l3] (.int 0 :: s) h) ∧
  (∀ (P : Nat × Nat) (l0 : Option Value) (l1 : Option Value) (l2 : Option Value) (l3 : Option Value) (x0 : Int32) (h : am_H), am_E P 130 354 [l0, l1, l2, l3] [.int x0] h = if x0 = 0 ∨ x0 = 1 then some (some (.int x0), h) else none) :=
  ⟨fun _ _ _ _ _ _ _ => er_go rfl rfl,
  fun _ _ _ _ _ _ _ => er_go rfl rfl,
  fun _ _ _ _ _ _ _ => er_go rfl rfl,
  fun _ _ _ _ _ _ _ => er_go rfl rfl,
  fun _ _ _ _ _ _ _ _ _ => er_go rfl rfl,
  fun _ _ _ _ _ _ _ _ _ => er_iald rfl,
  fun _ _ _ _ _ _ _ _ => er_callV rfl rfl rfl rfl,
  fun _ _ _ _ _ _ _ => er_go rfl rfl,
  fun _ _ _ _ _ _ _ => er_go rfl rfl,
  fun _ _ _ _ _ _ _ => er_go rfl rfl,
  fun _ _ _ _ _ _ _ => er_go rfl rfl,
  fun _ _ _ _ _ _ _ _ _ => er_go rfl rfl,
  fun _ _ _ _ _ _ _ _ _ => er_iald rfl,
  fun _ _ _ _ _ _ _ _ _ => er_callV rfl rfl rfl rfl,
  fun _ _ _ _ _ _ _ _ _ => er_ic_eq rfl,
  fun _ _ _ _ _ _ _ => er_go rfl rfl,
  fun _ _ _ _ _ _ _ => er_retZ rfl rfl⟩
set_option maxRecDepth 100000 in
theorem q130_c9 : (∀ (P : Nat × Nat) (l0 : Option Value) (l2 : Option Value) (l3 : Option Value) (a0 : Nat) (s : List Value) (h : am_H), am_E P 130 355 [l0, some (.ref a0), l2, l3] s h = am_E P 130 356 [l0, some (.ref a0), l2, l3] (.ref a0 :: s) h) ∧
  (∀ (P : Nat × Nat) (l0 : Option Value) (l1 : Option Value) (l2 : Option Value) (l3 : Option Value) (a0 : Nat) (h : am_H), am_E P 130 356 [l0, l1, l2, l3] [.ref a0] h = if am_cls h a0 = some 8 then (am_E P 42 0 [some (.ref a0), none] [] h).bind (fun q => am_E P 130 359 [l0, l1, l2, l3] (q.1.toList ++ []) q.2) else none) ∧
  (∀ (P : Nat × Nat) (l0 : Option Value) (l1 : Option Value) (l3 : Option Value) (a0 : Nat) (s : List Value) (h : am_H), am_E P 130 359 [l0, l1, some (.ref a0), l3] s h = am_E P 130 360 [l0, l1, some (.ref a0), l3] (.ref a0 :: s) h) ∧
  (∀ (P : Nat × Nat) (l0 : Option Value) (l1 : Option Value) (l2 : Option Value) (l3 : Option Value) (a0 : Nat) (v0 : Value) (h : am_H), am_E P 130 360 [l0, l1, l2, l3] [.ref a0, v0] h = if am_cls h a0 = some 9 then (am_E P 99 0 [some (.ref a0), none, none] [] h).bind (fun q => am_E P 130 363 [l0, l1, l2, l3] (q.1.toList ++ [v0]) q.2) else none) ∧
  (∀ (P : Nat × Nat) (l0 : Option Value) (l1 : Option Value) (l2 : Option Value) (l3 : Option Value) (x0 : Int32) (x1 : Int32) (s : List Value) (h : am_H), am_E P 130 363 [l0, l1, l2, l3] (.int x1 :: .int x0 :: s) h = if x0 = x1 then am_E P 130 690 [l0, l1, l2, l3] s h else am_E P 130 366 [l0, l1, l2, l3] s h) ∧
  (∀ (P : Nat × Nat) (l0 : Option Value) (l1 : Option Value) (l2 : Option Value) (l3 : Option Value) (s : List Value) (h : am_H), am_E P 130 366 [l0, l1, l2, l3] s h = am_E P 130 367 [l0, l1, l2, l3] (.int 0 :: s) h) ∧
  (∀ (P : Nat × Nat) (l0 : Option Value) (l1 : Option Value) (l2 : Option Value) (l3 : Option Value) (x0 : Int32) (h : am_H), am_E P 130 367 [l0, l1, l2, l3] [.int x0] h = if x0 = 0 ∨ x0 = 1 then some (some (.int x0), h) else none) :=
  ⟨fun _ _ _ _ _ _ _ => er_go rfl rfl,
  fun _ _ _ _ _ _ _ => er_callV rfl rfl rfl rfl,
  fun _ _ _ _ _ _ _ => er_go rfl rfl,
  fun _ _ _ _ _ _ _ _ => er_callV rfl rfl rfl rfl,
  fun _ _ _ _ _ _ _ _ _ => er_ic_eq rfl,
  fun _ _ _ _ _ _ _ => er_go rfl rfl,
  fun _ _ _ _ _ _ _ => er_retZ rfl rfl⟩
set_option maxRecDepth 100000 in
theorem q130_c10 : (∀ (P : Nat × Nat) (l0 : Option Value) (l2 : Option Value) (l3 : Option Value) (a0 : Nat) (s : List Value) (h : am_H), am_E P 130 368 [l0, some (.ref a0), l2, l3] s h = am_E P 130 369 [l0, some (.ref a0), l2, l3] (.ref a0 :: s) h) ∧
  (∀ (P : Nat × Nat) (l1 : Option Value) (l2 : Option Value) (l3 : Option Value) (a0 : Nat) (s : List Value) (h : am_H), am_E P 130 369 [some (.ref a0), l1, l2, l3] s h = am_E P 130 370 [some (.ref a0), l1, l2, l3] (.ref a0 :: s) h) ∧
  (∀ (P : Nat × Nat) (l0 : Option Value) (l1 : Option Value) (l2 : Option Value) (x0 : Int32) (s : List Value) (h : am_H), am_E P 130 370 [l0, l1, l2, some (.int x0)] s h = am_E P 130 371 [l0, l1, l2, some (.int x0)] (.int x0 :: s) h) ∧
  (∀ (P : Nat × Nat) (l0 : Option Value) (l1 : Option Value) (l2 : Option Value) (l3 : Option Value) (s : List Value) (h : am_H), am_E P 130 371 [l0, l1, l2, l3] s h = am_E P 130 372 [l0, l1, l2, l3] (.int 1 :: s) h) ∧
  (∀ (P : Nat × Nat) (l0 : Option Value) (l1 : Option Value) (l2 : Option Value) (l3 : Option Value) (x0 : Int32) (x1 : Int32) (s : List Value) (h : am_H), am_E P 130 372 [l0, l1, l2, l3] (.int x1 :: .int x0 :: s) h = am_E P 130 373 [l0, l1, l2, l3] (.int (x0 + x1) :: s) h) ∧
  (∀ (P : Nat × Nat) (l0 : Option Value) (l1 : Option Value) (l2 : Option Value) (l3 : Option Value) (x0 : Int32) (a0 : Nat) (s : List Value) (h : am_H), am_E P 130 373 [l0, l1, l2, l3] (.int x0 :: .ref a0 :: s) h = (am_iald h a0 x0).bind (fun v => am_E P 130 374 [l0, l1, l2, l3] (.int v :: s) h)) ∧
  (∀ (P : Nat × Nat) (l1 : Option Value) (l2 : Option Value) (l3 : Option Value) (a0 : Nat) (s : List Value) (h : am_H), am_E P 130 374 [some (.ref a0), l1, l2, l3] s h = am_E P 130 375 [some (.ref a0), l1, l2, l3] (.ref a0 :: s) h) ∧
  (∀ (P : Nat × Nat) (l0 : Option Value) (l1 : Option Value) (l2 : Option Value) (x0 : Int32) (s : List Value) (h : am_H), am_E P 130 375 [l0, l1, l2, some (.int x0)] s h = am_E P 130 376 [l0, l1, l2, some (.int x0)] (.int x0 :: s) h) ∧
  (∀ (P : Nat × Nat) (l0 : Option Value) (l1 : Option Value) (l2 : Option Value) (l3 : Option Value) (s : List Value) (h : am_H), am_E P 130 376 [l0, l1, l2, l3] s h = am_E P 130 377 [l0, l1, l2, l3] (.int 2 :: s) h) ∧
  (∀ (P : Nat × Nat) (l0 : Option Value) (l1 : Option Value) (l2 : Option Value) (l3 : Option Value) (x0 : Int32) (x1 : Int32) (s : List Value) (h : am_H), am_E P 130 377 [l0, l1, l2, l3] (.int x1 :: .int x0 :: s) h = am_E P 130 378 [l0, l1, l2, l3] (.int (x0 + x1) :: s) h) ∧
  (∀ (P : Nat × Nat) (l0 : Option Value) (l1 : Option Value) (l2 : Option Value) (l3 : Option Value) (x0 : Int32) (a0 : Nat) (s : List Value) (h : am_H), am_E P 130 378 [l0, l1, l2, l3] (.int x0 :: .ref a0 :: s) h = (am_iald h a0 x0).bind (fun v => am_E P 130 379 [l0, l1, l2, l3] (.int v :: s) h)) ∧
  (∀ (P : Nat × Nat) (l0 : Option Value) (l1 : Option Value) (l2 : Option Value) (l3 : Option Value) (a0 : Nat) (x0 : Int32) (x1 : Int32) (h : am_H), am_E P 130 379 [l0, l1, l2, l3] [.int x1, .int x0, .ref a0] h = if am_cls h a0 = some 8 then (am_E P 43 0 [some (.ref a0), some (.int x0), some (.int x1), none] [] h).bind (fun q => am_E P 130 382 [l0, l1, l2, l3] (q.1.toList ++ []) q.2) else none) ∧
  (∀ (P : Nat × Nat) (l0 : Option Value) (l1 : Option Value) (l3 : Option Value) (a0 : Nat) (s : List Value) (h : am_H), am_E P 130 382 [l0, l1, some (.ref a0), l3] s h = am_E P 130 383 [l0, l1, some (.ref a0), l3] (.ref a0 :: s) h) ∧
  (∀ (P : Nat × Nat) (l1 : Option Value) (l2 : Option Value) (l3 : Option Value) (a0 : Nat) (s : List Value) (h : am_H), am_E P 130 383 [some (.ref a0), l1, l2, l3] s h = am_E P 130 384 [some (.ref a0), l1, l2, l3] (.ref a0 :: s) h) ∧
  (∀ (P : Nat × Nat) (l0 : Option Value) (l1 : Option Value) (l2 : Option Value) (x0 : Int32) (s : List Value) (h : am_H), am_E P 130 384 [l0, l1, l2, some (.int x0)] s h = am_E P 130 385 [l0, l1, l2, some (.int x0)] (.int x0 :: s) h) ∧
  (∀ (P : Nat × Nat) (l0 : Option Value) (l1 : Option Value) (l2 : Option Value) (l3 : Option Value) (s : List Value) (h : am_H), am_E P 130 385 [l0, l1, l2, l3] s h = am_E P 130 386 [l0, l1, l2, l3] (.int 1 :: s) h) ∧
  (∀ (P : Nat × Nat) (l0 : Option Value) (l1 : Option Value) (l2 : Option Value) (l3 : Option Value) (x0 : Int32) (x1 : Int32) (s : List Value) (h : am_H), am_E P 130 386 [l0, l1, l2, l3] (.int x1 :: .int x0 :: s) h = am_E P 130 387 [l0, l1, l2, l3] (.int (x0 + x1) :: s) h) ∧
  (∀ (P : Nat × Nat) (l0 : Option Value) (l1 : Option Value) (l2 : Option Value) (l3 : Option Value) (x0 : Int32) (a0 : Nat) (s : List Value) (h : am_H), am_E P 130 387 [l0, l1, l2, l3] (.int x0 :: .ref a0 :: s) h = (am_iald h a0 x0).bind (fun v => am_E P 130 388 [l0, l1, l2, l3] (.int v :: s) h)) ∧
  (∀ (P : Nat × Nat) (l1 : Option Value) (l2 : Option Value) (l3 : Option Value) (a0 : Nat) (s : List Value) (h : am_H), am_E P 130 388 [some (.ref a0), l1, l2, l3] s h = am_E P 130 389 [some (.ref a0), l1, l2, l3] (.ref a0 :: s) h) ∧
  (∀ (P : Nat × Nat) (l0 : Option Value) (l1 : Option Value) (l2 : Option Value) (x0 : Int32) (s : List Value) (h : am_H), am_E P 130 389 [l0, l1, l2, some (.int x0)] s h = am_E P 130 390 [l0, l1, l2, some (.int x0)] (.int x0 :: s) h) ∧
  (∀ (P : Nat × Nat) (l0 : Option Value) (l1 : Option Value) (l2 : Option Value) (l3 : Option Value) (s : List Value) (h : am_H), am_E P 130 390 [l0, l1, l2, l3] s h = am_E P 130 391 [l0, l1, l2, l3] (.int 2 :: s) h) ∧
  (∀ (P : Nat × Nat) (l0 : Option Value) (l1 : Option Value) (l2 : Option Value) (l3 : Option Value) (x0 : Int32) (x1 : Int32) (s : List Value) (h : am_H), am_E P 130 391 [l0, l1, l2, l3] (.int x1 :: .int x0 :: s) h = am_E P 130 392 [l0, l1, l2, l3] (.int (x0 + x1) :: s) h) ∧
  (∀ (P : Nat × Nat) (l0 : Option Value) (l1 : Option Value) (l2 : Option Value) (l3 : Option Value) (x0 : Int32) (a0 : Nat) (s : List Value) (h : am_H), am_E P 130 392 [l0, l1, l2, l3] (.int x0 :: .ref a0 :: s) h = (am_iald h a0 x0).bind (fun v => am_E P 130 393 [l0, l1, l2, l3] (.int v :: s) h)) ∧
  (∀ (P : Nat × Nat) (l0 : Option Value) (l1 : Option Value) (l2 : Option Value) (l3 : Option Value) (a0 : Nat) (x0 : Int32) (x1 : Int32) (v0 : Value) (h : am_H), am_E P 130 393 [l0, l1, l2, l3] [.int x1, .int x0, .ref a0, v0] h = if am_cls h a0 = some 9 then (am_E P 100 0 [some (.ref a0), some (.int x0), some (.int x1), none, none, none] [] h).bind (fun q => am_E P 130 396 [l0, l1, l2, l3] (q.1.toList ++ [v0]) q.2) else none) ∧
  (∀ (P : Nat × Nat) (l0 : Option Value) (l1 : Option Value) (l2 : Option Value) (l3 : Option Value) (x0 : Int32) (x1 : Int32) (s : List Value) (h : am_H), am_E P 130 396 [l0, l1, l2, l3] (.int x1 :: .int x0 :: s) h = if x0 = x1 then am_E P 130 690 [l0, l1, l2, l3] s h else am_E P 130 399 [l0, l1, l2, l3] s h) ∧
  (∀ (P : Nat × Nat) (l0 : Option Value) (l1 : Option Value) (l2 : Option Value) (l3 : Option Value) (s : List Value) (h : am_H), am_E P 130 399 [l0, l1, l2, l3] s h = am_E P 130 400 [l0, l1, l2, l3] (.int 0 :: s) h) ∧
  (∀ (P : Nat × Nat) (l0 : Option Value) (l1 : Option Value) (l2 : Option Value) (l3 : Option Value) (x0 : Int32) (h : am_H), am_E P 130 400 [l0, l1, l2, l3] [.int x0] h = if x0 = 0 ∨ x0 = 1 then some (some (.int x0), h) else none) :=
  ⟨fun _ _ _ _ _ _ _ => er_go rfl rfl,
  fun _ _ _ _ _ _ _ => er_go rfl rfl,
  fun _ _ _ _ _ _ _ => er_go rfl rfl,
  fun _ _ _ _ _ _ _ => er_go rfl rfl,
  fun _ _ _ _ _ _ _ _ _ => er_go rfl rfl,
  fun _ _ _ _ _ _ _ _ _ => er_iald rfl,
  fun _ _ _ _ _ _ _ => er_go rfl rfl,
  fun _ _ _ _ _ _ _ => er_go rfl rfl,
  fun _ _ _ _ _ _ _ => er_go rfl rfl,
  fun _ _ _ _ _ _ _ _ _ => er_go rfl rfl,
  fun _ _ _ _ _ _ _ _ _ => er_iald rfl,
  fun _ _ _ _ _ _ _ _ _ => er_callV rfl rfl rfl rfl,
  fun _ _ _ _ _ _ _ => er_go rfl rfl,
  fun _ _ _ _ _ _ _ => er_go rfl rfl,
  fun _ _ _ _ _ _ _ => er_go rfl rfl,
  fun _ _ _ _ _ _ _ => er_go rfl rfl,
  fun _ _ _ _ _ _ _ _ _ => er_go rfl rfl,
  fun _ _ _ _ _ _ _ _ _ => er_iald rfl,
  fun _ _ _ _ _ _ _ => er_go rfl rfl,
  fun _ _ _ _ _ _ _ => er_go rfl rfl,
  fun _ _ _ _ _ _ _ => er_go rfl rfl,
  fun _ _ _ _ _ _ _ _ _ => er_go rfl rfl,
  fun _ _ _ _ _ _ _ _ _ => er_iald rfl,
  fun _ _ _ _ _ _ _ _ _ _ => er_callV rfl rfl rfl rfl,
  fun _ _ _ _ _ _ _ _ _ => er_ic_eq rfl,
  fun _ _ _ _ _ _ _ => er_go rfl rfl,
  fun _ _ _ _ _ _ _ => er_retZ rfl rfl⟩
set_option maxRecDepth 100000 in
theorem q130_c11 : (∀ (P : Nat × Nat) (l0 : Option Value) (l2 : Option Value) (l3 : Option Value) (a0 : Nat) (s : List Value) (h : am_H), am_E P 130 401 [l0, some (.ref a0), l2, l3] s h = am_E P 130 402 [l0, some (.ref a0), l2, l3] (.ref a0 :: s) h) ∧
  (∀ (P : Nat × Nat) (l1 : Option Value) (l2 : Option Value) (l3 : Option Value) (a0 : Nat) (s : List Value) (h : am_H), am_E P 130 402 [some (.ref a0), l1, l2, l3] s h = am_E P 130 403 [some (.ref a0), l1, l2, l3] (.ref a0 :: s) h) ∧
  (∀ (P : Nat × Nat) (l0 : Option Value) (l1 : Option Value) (l2 : Option Value) (x0 : Int32) (s : List Value) (h : am_H), am_E P 130 403 [l0, l1, l2, some (.int x0)] s h = am_E P 130 404 [l0, l1, l2, some (.int x0)] (.int x0 :: s) h) ∧
  (∀ (P : Nat × Nat) (l0 : Option Value) (l1 : Option Value) (l2 : Option Value) (l3 : Option Value) (s : List Value) (h : am_H), am_E P 130 404 [l0, l1, l2, l3] s h = am_E P 130 405 [l0, l1, l2, l3] (.int 1 :: s) h) ∧
  (∀ (P : Nat × Nat) (l0 : Option Value) (l1 : Option Value) (l2 : Option Value) (l3 : Option Value) (x0 : Int32) (x1 : Int32) (s : List Value) (h : am_H), am_E P 130 405 [l0, l1, l2, l3] (.int x1 :: .int x0 :: s) h = am_E P 130 406 [l0, l1, l2, l3] (.int (x0 + x1) :: s) h) ∧
  (∀ (P : Nat × Nat) (l0 : Option Value) (l1 : Option Value) (l2 : Option Value) (l3 : Option Value) (x0 : Int32) (a0 : Nat) (s : List Value) (h : am_H), am_E P 130 406 [l0, l1, l2, l3] (.int x0 :: .ref a0 :: s) h = (am_iald h a0 x0).bind (fun v => am_E P 130 407 [l0, l1, l2, l3] (.int v :: s) h)) ∧
  (∀ (P : Nat × Nat) (l1 : Option Value) (l2 : Option Value) (l3 : Option Value) (a0 : Nat) (s : List Value) (h : am_H), am_E P 130 407 [some (.ref a0), l1, l2, l3] s h = am_E P 130 408 [some (.ref a0), l1, l2, l3] (.ref a0 :: s) h) ∧
  (∀ (P : Nat × Nat) (l0 : Option Value) (l1 : Option Value) (l2 : Option Value) (x0 : Int32) (s : List Value) (h : am_H), am_E P 130 408 [l0, l1, l2, some (.int x0)] s h = am_E P 130 409 [l0, l1, l2, some (.int x0)] (.int x0 :: s) h) ∧
  (∀ (P : Nat × Nat) (l0 : Option Value) (l1 : Option Value) (l2 : Option Value) (l3 : Option Value) (s : List Value) (h : am_H), am_E P 130 409 [l0, l1, l2, l3] s h = am_E P 130 410 [l0, l1, l2, l3] (.int 2 :: s) h) ∧
  (∀ (P : Nat × Nat) (l0 : Option Value) (l1 : Option Value) (l2 : Option Value) (l3 : Option Value) (x0 : Int32) (x1 : Int32) (s : List Value) (h : am_H), am_E P 130 410 [l0, l1, l2, l3] (.int x1 :: .int x0 :: s) h = am_E P 130 411 [l0, l1, l2, l3] (.int (x0 + x1) :: s) h) ∧
  (∀ (P : Nat × Nat) (l0 : Option Value) (l1 : Option Value) (l2 : Option Value) (l3 : Option Value) (x0 : Int32) (a0 : Nat) (s : List Value) (h : am_H), am_E P 130 411 [l0, l1, l2, l3] (.int x0 :: .ref a0 :: s) h = (am_iald h a0 x0).bind (fun v => am_E P 130 412 [l0, l1, l2, l3] (.int v :: s) h)) ∧
  (∀ (P : Nat × Nat) (l1 : Option Value) (l2 : Option Value) (l3 : Option Value) (a0 : Nat) (s : List Value) (h : am_H), am_E P 130 412 [some (.ref a0), l1, l2, l3] s h = am_E P 130 413 [some (.ref a0), l1, l2, l3] (.ref a0 :: s) h) ∧
  (∀ (P : Nat × Nat) (l0 : Option Value) (l1 : Option Value) (l2 : Option Value) (x0 : Int32) (s : List Value) (h : am_H), am_E P 130 413 [l0, l1, l2, some (.int x0)] s h = am_E P 130 414 [l0, l1, l2, some (.int x0)] (.int x0 :: s) h) ∧
  (∀ (P : Nat × Nat) (l0 : Option Value) (l1 : Option Value) (l2 : Option Value) (l3 : Option Value) (s : List Value) (h : am_H), am_E P 130 414 [l0, l1, l2, l3] s h = am_E P 130 415 [l0, l1, l2, l3] (.int 3 :: s) h) ∧
  (∀ (P : Nat × Nat) (l0 : Option Value) (l1 : Option Value) (l2 : Option Value) (l3 : Option Value) (x0 : Int32) (x1 : Int32) (s : List Value) (h : am_H), am_E P 130 415 [l0, l1, l2, l3] (.int x1 :: .int x0 :: s) h = am_E P 130 416 [l0, l1, l2, l3] (.int (x0 + x1) :: s) h) ∧
  (∀ (P : Nat × Nat) (l0 : Option Value) (l1 : Option Value) (l2 : Option Value) (l3 : Option Value) (x0 : Int32) (a0 : Nat) (s : List Value) (h : am_H), am_E P 130 416 [l0, l1, l2, l3] (.int x0 :: .ref a0 :: s) h = (am_iald h a0 x0).bind (fun v => am_E P 130 417 [l0, l1, l2, l3] (.int v :: s) h)) ∧
  (∀ (P : Nat × Nat) (l0 : Option Value) (l1 : Option Value) (l2 : Option Value) (l3 : Option Value) (a0 : Nat) (x0 : Int32) (x1 : Int32) (x2 : Int32) (h : am_H), am_E P 130 417 [l0, l1, l2, l3] [.int x2, .int x1, .int x0, .ref a0] h = if am_cls h a0 = some 8 then (am_E P 44 0 [some (.ref a0), some (.int x0), some (.int x1), some (.int x2), none, none] [] h).bind (fun q => am_E P 130 420 [l0, l1, l2, l3] (q.1.toList ++ []) q.2) else none) ∧
  (∀ (P : Nat × Nat) (l0 : Option Value) (l1 : Option Value) (l3 : Option Value) (a0 : Nat) (s : List Value) (h : am_H), am_E P 130 420 [l0, l1, some (.ref a0), l3] s h = am_E P 130 421 [l0, l1, some (.ref a0), l3] (.ref a0 :: s) h) ∧
  (∀ (P : Nat × Nat) (l1 : Option Value) (l2 : Option Value) (l3 : Option Value) (a0 : Nat) (s : List Value) (h : am_H), am_E P 130 421 [some (.ref a0), l1, l2, l3] s h = am_E P 130 422 [some (.ref a0), l1, l2, l3] (.ref a0 :: s) h) ∧
  (∀ (P : Nat × Nat) (l0 : Option Value) (l1 : Option Value) (l2 : Option Value) (x0 : Int32) (s : List Value) (h : am_H), am_E P 130 422 [l0, l1, l2, some (.int x0)] s h = am_E P 130 423 [l0, l1, l2, some (.int x0)] (.int x0 :: s) h) ∧
  (∀ (P : Nat × Nat) (l0 : Option Value) (l1 : Option Value) (l2 : Option Value) (l3 : Option Value) (s : List Value) (h : am_H), am_E P 130 423 [l0, l1, l2, l3] s h = am_E P 130 424 [l0, l1, l2, l3] (.int 1 :: s) h) ∧
  (∀ (P : Nat × Nat) (l0 : Option Value) (l1 : Option Value) (l2 : Option Value) (l3 : Option Value) (x0 : Int32) (x1 : Int32) (s : List Value) (h : am_H), am_E P 130 424 [l0, l1, l2, l3] (.int x1 :: .int x0 :: s) h = am_E P 130 425 [l0, l1, l2, l3] (.int (x0 + x1) :: s) h) ∧
  (∀ (P : Nat × Nat) (l0 : Option Value) (l1 : Option Value) (l2 : Option Value) (l3 : Option Value) (x0 : Int32) (a0 : Nat) (s : List Value) (h : am_H), am_E P 130 425 [l0, l1, l2, l3] (.int x0 :: .ref a0 :: s) h = (am_iald h a0 x0).bind (fun v => am_E P 130 426 [l0, l1, l2, l3] (.int v :: s) h)) ∧
  (∀ (P : Nat × Nat) (l1 : Option Value) (l2 : Option Value) (l3 : Option Value) (a0 : Nat) (s : List Value) (h : am_H), am_E P 130 426 [some (.ref a0), l1, l2, l3] s h = am_E P 130 427 [some (.ref a0), l1, l2, l3] (.ref a0 :: s) h) ∧
  (∀ (P : Nat × Nat) (l0 : Option Value) (l1 : Option Value) (l2 : Option Value) (x0 : Int32) (s : List Value) (h : am_H), am_E P 130 427 [l0, l1, l2, some (.int x0)] s h = am_E P 130 428 [l0, l1, l2, some (.int x0)] (.int x0 :: s) h) ∧
  (∀ (P : Nat × Nat) (l0 : Option Value) (l1 : Option Value) (l2 : Option Value) (l3 : Option Value) (s : List Value) (h : am_H), am_E P 130 428 [l0, l1, l2, l3] s h = am_E P 130 429 [l0, l1, l2, l3] (.int 2 :: s) h) ∧
  (∀ (P : Nat × Nat) (l0 : Option Value) (l1 : Option Value) (l2 : Option Value) (l3 : Option Value) (x0 : Int32) (x1 : Int32) (s : List Value) (h : am_H), am_E P 130 429 [l0, l1, l2, l3] (.int x1 :: .int x0 :: s) h = am_E P 130 430 [l0, l1, l2, l3] (.int (x0 + x1) :: s) h) ∧
  (∀ (P : Nat × Nat) (l0 : Option Value) (l1 : Option Value) (l2 : Option Value) (l3 : Option Value) (x0 : Int32) (a0 : Nat) (s : List Value) (h : am_H), am_E P 130 430 [l0, l1, l2, l3] (.int x0 :: .ref a0 :: s) h = (am_iald h a0 x0).bind (fun v => am_E P 130 431 [l0, l1, l2, l3] (.int v :: s) h)) ∧
  (∀ (P : Nat × Nat) (l1 : Option Value) (l2 : Option Value) (l3 : Option Value) (a0 : Nat) (s : List Value) (h : am_H), am_E P 130 431 [some (.ref a0), l1, l2, l3] s h = am_E P 130 432 [some (.ref a0), l1, l2, l3] (.ref a0 :: s) h) ∧
  (∀ (P : Nat × Nat) (l0 : Option Value) (l1 : Option Value) (l2 : Option Value) (x0 : Int32) (s : List Value) (h : am_H), am_E P 130 432 [l0, l1, l2, some (.int x0)] s h = am_E P 130 433 [l0, l1, l2, some (.int x0)] (.int x0 :: s) h) ∧
  (∀ (P : Nat × Nat) (l0 : Option Value) (l1 : Option Value) (l2 : Option Value) (l3 : Option Value) (s : List Value) (h : am_H), am_E P 130 433 [l0, l1, l2, l3] s h = am_E P 130 434 [l0, l1, l2, l3] (.int 3 :: s) h) ∧
  (∀ (P : Nat × Nat) (l0 : Option Value) (l1 : Option Value) (l2 : Option Value) (l3 : Option Value) (x0 : Int32) (x1 : Int32) (s : List Value) (h : am_H), am_E P 130 434 [l0, l1, l2, l3] (.int x1 :: .int x0 :: s) h = am_E P 130 435 [l0, l1, l2, l3] (.int (x0 + x1) :: s) h) ∧
  (∀ (P : Nat × Nat) (l0 : Option Value) (l1 : Option Value) (l2 : Option Value) (l3 : Option Value) (x0 : Int32) (a0 : Nat) (s : List Value) (h : am_H), am_E P 130 435 [l0, l1, l2, l3] (.int x0 :: .ref a0 :: s) h = (am_iald h a0 x0).bind (fun v => am_E P 130 436 [l0, l1, l2, l3] (.int v :: s) h)) ∧
  (∀ (P : Nat × Nat) (l0 : Option Value) (l1 : Option Value) (l2 : Option Value) (l3 : Option Value) (a0 : Nat) (x0 : Int32) (x1 : Int32) (x2 : Int32) (v0 : Value) (h : am_H), am_E P 130 436 [l0, l1, l2, l3] [.int x2, .int x1, .int x0, .ref a0, v0] h = if am_cls h a0 = some 9 then (am_E P 101 0 [some (.ref a0), some (.int x0), some (.int x1), some (.int x2)] [] h).bind (fun q => am_E P 130 439 [l0, l1, l2, l3] (q.1.toList ++ [v0]) q.2) else none) ∧
  (∀ (P : Nat × Nat) (l0 : Option Value) (l1 : Option Value) (l2 : Option Value) (l3 : Option Value) (x0 : Int32) (x1 : Int32) (s : List Value) (h : am_H), am_E P 130 439 [l0, l1, l2, l3] (.int x1 :: .int x0 :: s) h = if x0 = x1 then am_E P 130 690 [l0, l1, l2, l3] s h else am_E P 130 442 [l0, l1, l2, l3] s h) ∧
  (∀ (P : Nat × Nat) (l0 : Option Value) (l1 : Option Value) (l2 : Option Value) (l3 : Option Value) (s : List Value) (h : am_H), am_E P 130 442 [l0, l1, l2, l3] s h = am_E P 130 443 [l0, l1, l2, l3] (.int 0 :: s) h) ∧
  (∀ (P : Nat × Nat) (l0 : Option Value) (l1 : Option Value) (l2 : Option Value) (l3 : Option Value) (x0 : Int32) (h : am_H), am_E P 130 443 [l0, l1, l2, l3] [.int x0] h = if x0 = 0 ∨ x0 = 1 then some (some (.int x0), h) else none) :=
  ⟨fun _ _ _ _ _ _ _ => er_go rfl rfl,
  fun _ _ _ _ _ _ _ => er_go rfl rfl,
  fun _ _ _ _ _ _ _ => er_go rfl rfl,
  fun _ _ _ _ _ _ _ => er_go rfl rfl,
  fun _ _ _ _ _ _ _ _ _ => er_go rfl rfl,
  fun _ _ _ _ _ _ _ _ _ => er_iald rfl,
  fun _ _ _ _ _ _ _ => er_go rfl rfl,
  fun _ _ _ _ _ _ _ => er_go rfl rfl,
  fun _ _ _ _ _ _ _ => er_go rfl rfl,
  fun _ _ _ _ _ _ _ _ _ => er_go rfl rfl,
  fun _ _ _ _ _ _ _ _ _ => er_iald rfl,
  fun _ _ _ _ _ _ _ => er_go rfl rfl,
  fun _ _ _ _ _ _ _ => er_go rfl rfl,
  fun _ _ _ _ _ _ _ => er_go rfl rfl,
  fun _ _ _ _ _ _ _ _ _ => er_go rfl rfl,
  fun _ _ _ _ _ _ _ _ _ => er_iald rfl,
  fun _ _ _ _ _ _ _ _ _ _ => er_callV rfl rfl rfl rfl,
  fun _ _ _ _ _ _ _ => er_go rfl rfl,
  fun _ _ _ _ _ _ _ => er_go rfl rfl,
  fun _ _ _ _ _ _ _ => er_go rfl rfl,
  fun _ _ _ _ _ _ _ => er_go rfl rfl,
  fun _ _ _ _ _ _ _ _ _ => er_go rfl rfl,
  fun _ _ _ _ _ _ _ _ _ => er_iald rfl,
  fun _ _ _ _ _ _ _ => er_go rfl rfl,
  fun _ _ _ _ _ _ _ => er_go rfl rfl,
  fun _ _ _ _ _ _ _ => er_go rfl rfl,
  fun _ _ _ _ _ _ _ _ _ => er_go rfl rfl,
  fun _ _ _ _ _ _ _ _ _ => er_iald rfl,
  fun _ _ _ _ _ _ _ => er_go rfl rfl,
  fun _ _ _ _ _ _ _ => er_go rfl rfl,
  fun _ _ _ _ _ _ _ => er_go rfl rfl,
  fun _ _ _ _ _ _ _ _ _ => er_go rfl rfl,
  fun _ _ _ _ _ _ _ _ _ => er_iald rfl,
  fun _ _ _ _ _ _ _ _ _ _ _ => er_callV rfl rfl rfl rfl,
  fun _ _ _ _ _ _ _ _ _ => er_ic_eq rfl,
  fun _ _ _ _ _ _ _ => er_go rfl rfl,
  fun _ _ _ _ _ _ _ => er_retZ rfl rfl⟩
set_option maxRecDepth 100000 in
theorem q130_c12 : (∀ (P : Nat × Nat) (l0 : Option Value) (l2 : Option Value) (l3 : Option Value) (a0 : Nat) (s : List Value) (h : am_H), am_E P 130 444 [l0, some (.ref a0), l2, l3] s h = am_E P 130 445 [l0, some (.ref a0), l2, l3] (.ref a0 :: s) h) ∧
  (∀ (P : Nat × Nat) (l1 : Option Value) (l2 : Option Value) (l3 : Option Value) (a0 : Nat) (s : List Value) (h : am_H), am_E P 130 445 [some (.ref a0), l1, l2, l3] s h = am_E P 130 446 [some (.ref a0), l1, l2, l3] (.ref a0 :: s) h) ∧
  (∀ (P : Nat × Nat) (l0 : Option Value) (l1 : Option Value) (l2 : Option Value) (x0 : Int32) (s : List Value) (h : am_H), am_E P 130 446 [l0, l1, l2, some (.int x0)] s h = am_E P 130 447 [l0, l1, l2, some (.int x0)] (.int x0 :: s) h) ∧
  (∀ (P : Nat × Nat) (l0 : Option Value) (l1 : Option Value) (l2 : Option Value) (l3 : Option Value) (s : List Value) (h : am_H), am_E P 130 447 [l0, l1, l2, l3] s h = am_E P 130 448 [l0, l1, l2, l3] (.int 1 :: s) h) ∧
  (∀ (P : Nat × Nat) (l0 : Option Value) (l1 : Option Value) (l2 : Option Value) (l3 : Option Value) (x0 : Int32) (x1 : Int32) (s : List Value) (h : am_H), am_E P 130 448 [l0, l1, l2, l3] (.int x1 :: .int x0 :: s) h = am_E P 130 449 [l0, l1, l2, l3] (.int (x0 + x1) :: s) h) ∧
  (∀ (P : Nat × Nat) (l0 : Option Value) (l1 : Option Value) (l2 : Option Value) (l3 : Option Value) (x0 : Int32) (a0 : Nat) (s : List Value) (h : am_H), am_E P 130 449 [l0, l1, l2, l3] (.int x0 :: .ref a0 :: s) h = (am_iald h a0 x0).bind (fun v => am_E P 130 450 [l0, l1, l2, l3] (.int v :: s) h)) ∧
  (∀ (P : Nat × Nat) (l1 : Option Value) (l2 : Option Value) (l3 : Option Value) (a0 : Nat) (s : List Value) (h : am_H), am_E P 130 450 [some (.ref a0), l1, l2, l3] s h = am_E P 130 451 [some (.ref a0), l1, l2, l3] (.ref a0 :: s) h) ∧
  (∀ (P : Nat × Nat) (l0 : Option Value) (l1 : Option Value) (l2 : Option Value) (x0 : Int32) (s : List Value) (h : am_H), am_E P 130 451 [l0, l1, l2, some (.int x0)] s h = am_E P 130 452 [l0, l1, l2, some (.int x0)] (.int x0 :: s) h) ∧
  (∀ (P : Nat × Nat) (l0 : Option Value) (l1 : Option Value) (l2 : Option Value) (l3 : Option Value) (s : List Value) (h : am_H), am_E P 130 452 [l0, l1, l2, l3] s h = am_E P 130 453 [l0, l1, l2, l3] (.int 2 :: s) h) ∧
  (∀ (P : Nat × Nat) (l0 : Option Value) (l1 : Option Value) (l2 : Option Value) (l3 : Option Value) (x0 : Int32) (x1 : Int32) (s : List Value) (h : am_H), am_E P 130 453 [l0, l1, l2, l3] (.int x1 :: .int x0 :: s) h = am_E P 130 454 [l0, l1, l2, l3] (.int (x0 + x1) :: s) h) ∧
  (∀ (P : Nat × Nat) (l0 : Option Value) (l1 : Option Value) (l2 : Option Value) (l3 : Option Value) (x0 : Int32) (a0 : Nat) (s : List Value) (h : am_H), am_E P 130 454 [l0, l1, l2, l3] (.int x0 :: .ref a0 :: s) h = (am_iald h a0 x0).bind (fun v => am_E P 130 455 [l0, l1, l2, l3] (.int v :: s) h)) ∧
  (∀ (P : Nat × Nat) (l1 : Option Value) (l2 : Option Value) (l3 : Option Value) (a0 : Nat) (s : List Value) (h : am_H), am_E P 130 455 [some (.ref a0), l1, l2, l3] s h = am_E P 130 456 [some (.ref a0), l1, l2, l3] (.ref a0 :: s) h) ∧
  (∀ (P : Nat × Nat) (l0 : Option Value) (l1 : Option Value) (l2 : Option Value) (x0 : Int32) (s : List Value) (h : am_H), am_E P 130 456 [l0, l1, l2, some (.int x0)] s h = am_E P 130 457 [l0, l1, l2, some (.int x0)] (.int x0 :: s) h) ∧
  (∀ (P : Nat × Nat) (l0 : Option Value) (l1 : Option Value) (l2 : Option Value) (l3 : Option Value) (s : List Value) (h : am_H), am_E P 130 457 [l0, l1, l2, l3] s h = am_E P 130 458 [l0, l1, l2, l3] (.int 3 :: s) h) ∧
  (∀ (P : Nat × Nat) (l0 : Option Value) (l1 : Option Value) (l2 : Option Value) (l3 : Option Value) (x0 : Int32) (x1 : Int32) (s : List Value) (h : am_H), am_E P 130 458 [l0, l1, l2, l3] (.int x1 :: .int x0 :: s) h = am_E P 130 459 [l0, l1, l2, l3] (.int (x0 + x1) :: s) h) ∧
  (∀ (P : Nat × Nat) (l0 : Option Value) (l1 : Option Value) (l2 : Option Value) (l3 : Option Value) (x0 : Int32) (a0 : Nat) (s : List Value) (h : am_H), am_E P 130 459 [l0, l1, l2, l3] (.int x0 :: .ref a0 :: s) h = (am_iald h a0 x0).bind (fun v => am_E P 130 460 [l0, l1, l2, l3] (.int v :: s) h)) ∧
  (∀ (P : Nat × Nat) (l0 : Option Value) (l1 : Option Value) (l2 : Option Value) (l3 : Option Value) (a0 : Nat) (x0 : Int32) (x1 : Int32) (x2 : Int32) (h : am_H), am_E P 130 460 [l0, l1, l2, l3] [.int x2, .int x1, .int x0, .ref a0] h = if am_cls h a0 = some 8 then (am_E P 45 0 [some (.ref a0), some (.int x0), some (.int x1), some (.int x2), none] [] h).bind (fun q => am_E P 130 463 [l0, l1, l2, l3] (q.1.toList ++ []) q.2) else none) ∧
  (∀ (P : Nat × Nat) (l0 : Option Value) (l1 : Option Value) (l3 : Option Value) (a0 : Nat) (s : List Value) (h : am_H), am_E P 130 463 [l0, l1, some (.ref a0), l3] s h = am_E P 130 464 [l0, l1, some (.ref a0), l3] (.ref a0 :: s) h) ∧
  (∀ (P : Nat × Nat) (l1 : Option Value) (l2 : Option Value) (l3 : Option Value) (a0 : Nat) (s : List Value) (h : am_H), am_E P 130 464 [some (.ref a0), l1, l2, l3] s h = am_E P 130 465 [some (.ref a0), l1, l2, l3] (.ref a0 :: s) h) ∧
  (∀ (P : Nat × Nat) (l0 : Option Value) (l1 : Option Value) (l2 : Option Value) (x0 : Int32) (s : List Value) (h : am_H), am_E P 130 465 [l0, l1, l2, some (.int x0)] s h = am_E P 130 466 [l0, l1, l2, some (.int x0)] (.int x0 :: s) h) ∧
  (∀ (P : Nat × Nat) (l0 : Option Value) (l1 : Option Value) (l2 : Option Value) (l3 : Option Value) (s : List Value) (h : am_H), am_E P 130 466 [l0, l1, l2, l3] s h = am_E P 130 467 [l0, l1, l2, l3] (.int 1 :: s) h) ∧
  (∀ (P : Nat × Nat) (l0 : Option Value) (l1 : Option Value) (l2 : Option Value) (l3 : Option Value) (x0 : Int32) (x1 : Int32) (s : List Value) (h : am_H), am_E P 130 467 [l0, l1, l2, l3] (.int x1 :: .int x0 :: s) h = am_E P 130 468 [l0, l1, l2, l3] (.int (x0 + x1) :: s) h) ∧
  (∀ (P : Nat × Nat) (l0 : Option Value) (l1 : Option Value) (l2 : Option Value) (l3 : Option Value) (x0 : Int32) (a0 : Nat) (s : List Value) (h : am_H), am_E P 130 468 [l0, l1, l2, l3] (.int x0 :: .ref a0 :: s) h = (am_iald h a0 x0).bind (fun v => am_E P 130 469 [l0, l1, l2, l3] (.int v :: s) h)) ∧
  (∀ (P : Nat × Nat) (l1 : Option Value) (l2 : Option Value) (l3 : Option Value) (a0 : Nat) (s : List Value) (h : am_H), am_E P 130 469 [some (.ref a0), l1, l2, l3] s h = am_E P 130 470 [some (.ref a0), l1, l2, l3] (.ref a0 :: s) h) ∧
  (∀ (P : Nat × Nat) (l0 : Option Value) (l1 : Option Value) (l2 : Option Value) (x0 : Int32) (s : List Value) (h : am_H), am_E P 130 470 [l0, l1, l2, some (.int x0)] s h = am_E P 130 471 [l0, l1, l2, some (.int x0)] (.int x0 :: s) h) ∧
  (∀ (P : Nat × Nat) (l0 : Option Value) (l1 : Option Value) (l2 : Option Value) (l3 : Option Value) (s : List Value) (h : am_H), am_E P 130 471 [l0, l1, l2, l3] s h = am_E P 130 472 [l0, l1, l2, l3] (.int 2 :: s) h) ∧
  (∀ (P : Nat × Nat) (l0 : Option Value) (l1 : Option Value) (l2 : Option Value) (l3 : Option Value) (x0 : Int32) (x1 : Int32) (s : List Value) (h : am_H), am_E P 130 472 [l0, l1, l2, l3] (.int x1 :: .int x0 :: s) h = am_E P 130 473 [l0, l1, l2, l3] (.int (x0 + x1) :: s) h) ∧
  (∀ (P : Nat × Nat) (l0 : Option Value) (l1 : Option Value) (l2 : Option Value) (l3 : Option Value) (x0 : Int32) (a0 : Nat) (s : List Value) (h : am_H), am_E P 130 473 [l0, l1, l2, l3] (.int x0 :: .ref a0 :: s) h = (am_iald h a0 x0).bind (fun v => am_E P 130 474 [l0, l1, l2, l3] (.int v :: s) h)) ∧
  (∀ (P : Nat × Nat) (l1 : Option Value) (l2 : Option Value) (l3 : Option Value) (a0 : Nat) (s : List Value) (h : am_H), am_E P 130 474 [some (.ref a0), l1, l2, l3] s h = am_E P 130 475 [some (.ref a0), l1, l2, l3] (.ref a0 :: s) h) ∧
  (∀ (P : Nat × Nat) (l0 : Option Value) (l1 : Option Value) (l2 : Option Value) (x0 : Int32) (s : List Value) (h : am_H), am_E P 130 475 [l0, l1, l2, some (.int x0)] s h = am_E P 130 476 [l0, l1, l2, some (.int x0)] (.int x0 :: s) h) ∧
  (∀ (P : Nat × Nat) (l0 : Option Value) (l1 : Option Value) (l2 : Option Value) (l3 : Option Value) (s : List Value) (h : am_H), am_E P 130 476 [l0, l1, l2, l3] s h = am_E P 130 477 [l0, l1, l2, l3] (.int 3 :: s) h) ∧
  (∀ (P : Nat × Nat) (l0 : Option Value) (l1 : Option Value) (l2 : Option Value) (l3 : Option Value) (x0 : Int32) (x1 : Int32) (s : List Value) (h : am_H), am_E P 130 477 [l0, l1, l2, l3] (.int x1 :: .int x0 :: s) h = am_E P 130 478 [l0, l1, l2, l3] (.int (x0 + x1) :: s) h) ∧
  (∀ (P : Nat × Nat) (l0 : Option Value) (l1 : Option Value) (l2 : Option Value) (l3 : Option Value) (x0 : Int32) (a0 : Nat) (s : List Value) (h : am_H), am_E P 130 478 [l0, l1, l2, l3] (.int x0 :: .ref a0 :: s) h = (am_iald h a0 x0).bind (fun v => am_E P 130 479 [l0, l1, l2, l3] (.int v :: s) h)) ∧
  (∀ (P : Nat × Nat) (l0 : Option Value) (l1 : Option Value) (l2 : Option Value) (l3 : Option Value) (a0 : Nat) (x0 : Int32) (x1 : Int32) (x2 : Int32) (v0 : Value) (h : am_H), am_E P 130 479 [l0, l1, l2, l3] [.int x2, .int x1, .int x0, .ref a0, v0] h = if am_cls h a0 = some 9 then (am_E P 102 0 [some (.ref a0), some (.int x0), some (.int x1), some (.int x2), none] [] h).bind (fun q => am_E P 130 482 [l0, l1, l2, l3] (q.1.toList ++ [v0]) q.2) else none) ∧
  (∀ (P : Nat × Nat) (l0 : Option Value) (l1 : Option Value) (l2 : Option Value) (l3 : Option Value) (j0 : Int64) (j1 : Int64) (s : List Value) (h : am_H), am_E P 130 482 [l0, l1, l2, l3] (.long j1 :: .long j0 :: s) h = am_E P 130 483 [l0, l1, l2, l3] (.int (lg_cmp j0 j1) :: s) h) ∧
  (∀ (P : Nat × Nat) (l0 : Option Value) (l1 : Option Value) (l2 : Option Value) (l3 : Option Value) (x0 : Int32) (s : List Value) (h : am_H), am_E P 130 483 [l0, l1, l2, l3] (.int x0 :: s) h = if x0 = 0 then am_E P 130 690 [l0, l1, l2, l3] s h else am_E P 130 486 [l0, l1, l2, l3] s h) ∧
  (∀ (P : Nat × Nat) (l0 : Option Value) (l1 : Option Value) (l2 : Option Value) (l3 : Option Value) (s : List Value) (h : am_H), am_E P 130 486 [l0, l1, l2, l3] s h = am_E P 130 487 [l0, l1, l2, l3] (.int 0 :: s) h) ∧
  (∀ (P : Nat × Nat) (l0 : Option Value) (l1 : Option Value) (l2 : Option Value) (l3 : Option Value) (x0 : Int32) (h : am_H), am_E P 130 487 [l0, l1, l2, l3] [.int x0] h = if x0 = 0 ∨ x0 = 1 then some (some (.int x0), h) else none) :=
  ⟨fun _ _ _ _ _ _ _ => er_go rfl rfl,
  fun _ _ _ _ _ _ _ => er_go rfl rfl,
  fun _ _ _ _ _ _ _ => er_go rfl rfl,
  fun _ _ _ _ _ _ _ => er_go rfl rfl,
  fun _ _ _ _ _ _ _ _ _ => er_go rfl rfl,
  fun _ _ _ _ _ _ _ _ _ => er_iald rfl,
  fun _ _ _ _ _ _ _ => er_go rfl rfl,
  fun _ _ _ _ _ _ _ => er_go rfl rfl,
  fun _ _ _ _ _ _ _ => er_go rfl rfl,
  fun _ _ _ _ _ _ _ _ _ => er_go rfl rfl,
  fun _ _ _ _ _ _ _ _ _ => er_iald rfl,
  fun _ _ _ _ _ _ _ => er_go rfl rfl,
  fun _ _ _ _ _ _ _ => er_go rfl rfl,
  fun _ _ _ _ _ _ _ => er_go rfl rfl,
  fun _ _ _ _ _ _ _ _ _ => er_go rfl rfl,
  fun _ _ _ _ _ _ _ _ _ => er_iald rfl,
  fun _ _ _ _ _ _ _ _ _ _ => er_callV rfl rfl rfl rfl,
  fun _ _ _ _ _ _ _ => er_go rfl rfl,
  fun _ _ _ _ _ _ _ => er_go rfl rfl,
  fun _ _ _ _ _ _ _ => er_go rfl rfl,
  fun _ _ _ _ _ _ _ => er_go rfl rfl,
  fun _ _ _ _ _ _ _ _ _ => er_go rfl rfl,
  fun _ _ _ _ _ _ _ _ _ => er_iald rfl,
  fun _ _ _ _ _ _ _ => er_go rfl rfl,
  fun _ _ _ _ _ _ _ => er_go rfl rfl,
  fun _ _ _ _ _ _ _ => er_go rfl rfl,
  fun _ _ _ _ _ _ _ _ _ => er_go rfl rfl,
  fun _ _ _ _ _ _ _ _ _ => er_iald rfl,
  fun _ _ _ _ _ _ _ => er_go rfl rfl,
  fun _ _ _ _ _ _ _ => er_go rfl rfl,
  fun _ _ _ _ _ _ _ => er_go rfl rfl,
  fun _ _ _ _ _ _ _ _ _ => er_go rfl rfl,
  fun _ _ _ _ _ _ _ _ _ => er_iald rfl,
  fun _ _ _ _ _ _ _ _ _ _ _ => er_callV rfl rfl rfl rfl,
  fun _ _ _ _ _ _ _ _ _ => er_go rfl rfl,
  fun _ _ _ _ _ _ _ _ => er_if_eq rfl,
  fun _ _ _ _ _ _ _ => er_go rfl rfl,
  fun _ _ _ _ _ _ _ => er_retZ rfl rfl⟩
set_option maxRecDepth 100000 in
theorem q130_c13 : (∀ (P : Nat × Nat) (l0 : Option Value) (l2 : Option Value) (l3 : Option Value) (a0 : Nat) (s : List Value) (h : am_H), am_E P 130 488 [l0, some (.ref a0), l2, l3] s h = am_E P 130 489 [l0, some (.ref a0), l2, l3] (.ref a0 :: s) h) ∧
  (∀ (P : Nat × Nat) (l1 : Option Value) (l2 : Option Value) (l3 : Option Value) (a0 : Nat) (s : List Value) (h : am_H), am_E P 130 489 [some (.ref a0), l1, l2, l3] s h = am_E P 130 490 [some (.ref a0), l1, l2, l3] (.ref a0 :: s) h) ∧
  (∀ (P : Nat × Nat) (l0 : Option Value) (l1 : Option Value) (l2 : Option Value) (x0 : Int32) (s : List Value) (h : am_H), am_E P 130 490 [l0, l1, l2, some (.int x0)] s h = am_E P 130 491 [l0, l1, l2, some (.int x0)] (.int x0 :: s) h) ∧
  (∀ (P : Nat × Nat) (l0 : Option Value) (l1 : Option Value) (l2 : Option Value) (l3 : Option Value) (s : List Value) (h : am_H), am_E P 130 491 [l0, l1, l2, l3] s h = am_E P 130 492 [l0, l1, l2, l3] (.int 1 :: s) h) ∧
  (∀ (P : Nat × Nat) (l0 : Option Value) (l1 : Option Value) (l2 : Option Value) (l3 : Option Value) (x0 : Int32) (x1 : Int32) (s : List Value) (h : am_H), am_E P 130 492 [l0, l1, l2, l3] (.int x1 :: .int x0 :: s) h = am_E P 130 493 [l0, l1, l2, l3] (.int (x0 + x1) :: s) h) ∧
  (∀ (P : Nat × Nat) (l0 : Option Value) (l1 : Option Value) (l2 : Option Value) (l3 : Option Value) (x0 : Int32) (a0 : Nat) (s : List Value) (h : am_H), am_E P 130 493 [l0, l1, l2, l3] (.int x0 :: .ref a0 :: s) h = (am_iald h a0 x0).bind (fun v => am_E P 130 494 [l0, l1, l2, l3] (.int v :: s) h)) ∧
  (∀ (P : Nat × Nat) (l1 : Option Value) (l2 : Option Value) (l3 : Option Value) (a0 : Nat) (s : List Value) (h : am_H), am_E P 130 494 [some (.ref a0), l1, l2, l3] s h = am_E P 130 495 [some (.ref a0), l1, l2, l3] (.ref a0 :: s) h) ∧
  (∀ (P : Nat × Nat) (l0 : Option Value) (l1 : Option Value) (l2 : Option Value) (x0 : Int32) (s : List Value) (h : am_H), am_E P 130 495 [l0, l1, l2, some (.int x0)] s h = am_E P 130 496 [l0, l1, l2, some (.int x0)] (.int x0 :: s) h) ∧
  (∀ (P : Nat × Nat) (l0 : Option Value) (l1 : Option Value) (l2 : Option Value) (l3 : Option Value) (s : List Value) (h : am_H), am_E P 130 496 [l0, l1, l2, l3] s h = am_E P 130 497 [l0, l1, l2, l3] (.int 2 :: s) h) ∧
  (∀ (P : Nat × Nat) (l0 : Option Value) (l1 : Option Value) (l2 : Option Value) (l3 : Option Value) (x0 : Int32) (x1 : Int32) (s : List Value) (h : am_H), am_E P 130 497 [l0, l1, l2, l3] (.int x1 :: .int x0 :: s) h = am_E P 130 498 [l0, l1, l2, l3] (.int (x0 + x1) :: s) h) ∧
  (∀ (P : Nat × Nat) (l0 : Option Value) (l1 : Option Value) (l2 : Option Value) (l3 : Option Value) (x0 : Int32) (a0 : Nat) (s : List Value) (h : am_H), am_E P 130 498 [l0, l1, l2, l3] (.int x0 :: .ref a0 :: s) h = (am_iald h a0 x0).bind (fun v => am_E P 130 499 [l0, l1, l2, l3] (.int v :: s) h)) ∧
  (∀ (P : Nat × Nat) (l1 : Option Value) (l2 : Option Value) (l3 : Option Value) (a0 : Nat) (s : List Value) (h : am_H), am_E P 130 499 [some (.ref a0), l1, l2, l3] s h = am_E P 130 500 [some (.ref a0), l1, l2, l3] (.ref a0 :: s) h) ∧
  (∀ (P : Nat × Nat) (l0 : Option Value) (l1 : Option Value) (l2 : Option Value) (x0 : Int32) (s : List Value) (h : am_H), am_E P 130 500 [l0, l1, l2, some (.int x0)] s h = am_E P 130 501 [l0, l1, l2, some (.int x0)] (.int x0 :: s) h) ∧
  (∀ (P : Nat × Nat) (l0 : Option Value) (l1 : Option Value) (l2 : Option Value) (l3 : Option Value) (s : List Value) (h : am_H), am_E P 130 501 [l0, l1, l2, l3] s h = am_E P 130 502 [l0, l1, l2, l3] (.int 3 :: s) h) ∧
  (∀ (P : Nat × Nat) (l0 : Option Value) (l1 : Option Value) (l2 : Option Value) (l3 : Option Value) (x0 : Int32) (x1 : Int32) (s : List Value) (h : am_H), am_E P 130 502 [l0, l1, l2, l3] (.int x1 :: .int x0 :: s) h = am_E P 130 503 [l0, l1, l2, l3] (.int (x0 + x1) :: s) h) ∧
  (∀ (P : Nat × Nat) (l0 : Option Value) (l1 : Option Value) (l2 : Option Value) (l3 : Option Value) (x0 : Int32) (a0 : Nat) (s : List Value) (h : am_H), am_E P 130 503 [l0, l1, l2, l3] (.int x0 :: .ref a0 :: s) h = (am_iald h a0 x0).bind (fun v => am_E P 130 504 [l0, l1, l2, l3] (.int v :: s) h)) ∧
  (∀ (P : Nat × Nat) (l0 : Option Value) (l1 : Option Value) (l2 : Option Value) (l3 : Option Value) (a0 : Nat) (x0 : Int32) (x1 : Int32) (x2 : Int32) (h : am_H), am_E P 130 504 [l0, l1, l2, l3] [.int x2, .int x1, .int x0, .ref a0] h = if am_cls h a0 = some 8 then (am_E P 46 0 [some (.ref a0), some (.int x0), some (.int x1), some (.int x2), none] [] h).bind (fun q => am_E P 130 507 [l0, l1, l2, l3] (q.1.toList ++ []) q.2) else none) ∧
  (∀ (P : Nat × Nat) (l0 : Option Value) (l1 : Option Value) (l3 : Option Value) (a0 : Nat) (s : List Value) (h : am_H), am_E P 130 507 [l0, l1, some (.ref a0), l3] s h = am_E P 130 508 [l0, l1, some (.ref a0), l3] (.ref a0 :: s) h) ∧
  (∀ (P : Nat × Nat) (l1 : Option Value) (l2 : Option Value) (l3 : Option Value) (a0 : Nat) (s : List Value) (h : am_H), am_E P 130 508 [some (.ref a0), l1, l2, l3] s h = am_E P 130 509 [some (.ref a0), l1, l2, l3] (.ref a0 :: s) h) ∧
  (∀ (P : Nat × Nat) (l0 : Option Value) (l1 : Option Value) (l2 : Option Value) (x0 : Int32) (s : List Value) (h : am_H), am_E P 130 509 [l0, l1, l2, some (.int x0)] s h = am_E P 130 510 [l0, l1, l2, some (.int x0)] (.int x0 :: s) h) ∧
  (∀ (P : Nat × Nat) (l0 : Option Value) (l1 : Option Value) (l2 : Option Value) (l3 : Option Value) (s : List Value) (h : am_H), am_E P 130 510 [l0, l1, l2, l3] s h = am_E P 130 511 [l0, l1, l2, l3] (.int 1 :: s) h) ∧
  (∀ (P : Nat × Nat) (l0 : Option Value) (l1 : Option Value) (l2 : Option Value) (l3 : Option Value) (x0 : Int32) (x1 : Int32) (s : List Value) (h : am_H), am_E P 130 511 [l0, l1, l2, l3] (.int x1 :: .int x0 :: s) h = am_E P 130 512 [l0, l1, l2, l3] (.int (x0 + x1) :: s) h) ∧
  (∀ (P : Nat × Nat) (l0 : Option Value) (l1 : Option Value) (l2 : Option Value) (l3 : Option Value) (x0 : Int32) (a0 : Nat) (s : List Value) (h : am_H), am_E P 130 512 [l0, l1, l2, l3] (.int x0 :: .ref a0 :: s) h = (am_iald h a0 x0).bind (fun v => am_E P 130 513 [l0, l1, l2, l3] (.int v :: s) h)) ∧
  (∀ (P : Nat × Nat) (l1 : Option Value) (l2 : Option Value) (l3 : Option Value) (a0 : Nat) (s : List Value) (h : am_H), am_E P 130 513 [some (.ref a0), l1, l2, l3] s h = am_E P 130 514 [some (.ref a0), l1, l2, l3] (.ref a0 :: s) h) ∧
  (∀ (P : Nat × Nat) (l0 : Option Value) (l1 : Option Value) (l2 : Option Value) (x0 : Int32) (s : List Value) (h : am_H), am_E P 130 514 [l0, l1, l2, some (.int x0)] s h = am_E P 130 515 [l0, l1, l2, some (.int x0)] (.int x0 :: s) h) ∧
  (∀ (P : Nat × Nat) (l0 : Option Value) (l1 : Option Value) (l2 : Option Value) (l3 : Option Value) (s : List Value) (h : am_H), am_E P 130 515 [l0, l1, l2, l3] s h = am_E P 130 516 [l0, l1, l2, l3] (.int 2 :: s) h) ∧
  (∀ (P : Nat × Nat) (l0 : Option Value) (l1 : Option Value) (l2 : Option Value) (l3 : Option Value) (x0 : Int32) (x1 : Int32) (s : List Value) (h : am_H), am_E P 130 516 [l0, l1, l2, l3] (.int x1 :: .int x0 :: s) h = am_E P 130 517 [l0, l1, l2, l3] (.int (x0 + x1) :: s) h) ∧
  (∀ (P : Nat × Nat) (l0 : Option Value) (l1 : Option Value) (l2 : Option Value) (l3 : Option Value) (x0 : Int32) (a0 : Nat) (s : List Value) (h : am_H), am_E P 130 517 [l0, l1, l2, l3] (.int x0 :: .ref a0 :: s) h = (am_iald h a0 x0).bind (fun v => am_E P 130 518 [l0, l1, l2, l3] (.int v :: s) h)) ∧
  (∀ (P : Nat × Nat) (l1 : Option Value) (l2 : Option Value) (l3 : Option Value) (a0 : Nat) (s : List Value) (h : am_H), am_E P 130 518 [some (.ref a0), l1, l2, l3] s h = am_E P 130 519 [some (.ref a0), l1, l2, l3] (.ref a0 :: s) h) ∧
  (∀ (P : Nat × Nat) (l0 : Option Value) (l1 : Option Value) (l2 : Option Value) (x0 : Int32) (s : List Value) (h : am_H), am_E P 130 519 [l0, l1, l2, some (.int x0)] s h = am_E P 130 520 [l0, l1, l2, some (.int x0)] (.int x0 :: s) h) ∧
  (∀ (P : Nat × Nat) (l0 : Option Value) (l1 : Option Value) (l2 : Option Value) (l3 : Option Value) (s : List Value) (h : am_H), am_E P 130 520 [l0, l1, l2, l3] s h = am_E P 130 521 [l0, l1, l2, l3] (.int 3 :: s) h) ∧
  (∀ (P : Nat × Nat) (l0 : Option Value) (l1 : Option Value) (l2 : Option Value) (l3 : Option Value) (x0 : Int32) (x1 : Int32) (s : List Value) (h : am_H), am_E P 130 521 [l0, l1, l2, l3] (.int x1 :: .int x0 :: s) h = am_E P 130 522 [l0, l1, l2, l3] (.int (x0 + x1) :: s) h) ∧
  (∀ (P : Nat × Nat) (l0 : Option Value) (l1 : Option Value) (l2 : Option Value) (l3 : Option Value) (x0 : Int32) (a0 : Nat) (s : List Value) (h : am_H), am_E P 130 522 [l0, l1, l2, l3] (.int x0 :: .ref a0 :: s) h = (am_iald h a0 x0).bind (fun v => am_E P 130 523 [l0, l1, l2, l3] (.int v :: s) h)) ∧
  (∀ (P : Nat × Nat) (l0 : Option Value) (l1 : Option Value) (l2 : Option Value) (l3 : Option Value) (a0 : Nat) (x0 : Int32) (x1 : Int32) (x2 : Int32) (v0 : Value) (h : am_H), am_E P 130 523 [l0, l1, l2, l3] [.int x2, .int x1, .int x0, .ref a0, v0] h = if am_cls h a0 = some 9 then (am_E P 103 0 [some (.ref a0), some (.int x0), some (.int x1), some (.int x2), none] [] h).bind (fun q => am_E P 130 526 [l0, l1, l2, l3] (q.1.toList ++ [v0]) q.2) else none) ∧
  (∀ (P : Nat × Nat) (l0 : Option Value) (l1 : Option Value) (l2 : Option Value) (l3 : Option Value) (j0 : Int64) (j1 : Int64) (s : List Value) (h : am_H), am_E P 130 526 [l0, l1, l2, l3] (.long j1 :: .long j0 :: s) h = am_E P 130 527 [l0, l1, l2, l3] (.int (lg_cmp j0 j1) :: s) h) ∧
  (∀ (P : Nat × Nat) (l0 : Option Value) (l1 : Option Value) (l2 : Option Value) (l3 : Option Value) (x0 : Int32) (s : List Value) (h : am_H), am_E P 130 527 [l0, l1, l2, l3] (.int x0 :: s) h = if x0 = 0 then am_E P 130 690 [l0, l1, l2, l3] s h else am_E P 130 530 [l0, l1, l2, l3] s h) ∧
  (∀ (P : Nat × Nat) (l0 : Option Value) (l1 : Option Value) (l2 : Option Value) (l3 : Option Value) (s : List Value) (h : am_H), am_E P 130 530 [l0, l1, l2, l3] s h = am_E P 130 531 [l0, l1, l2, l3] (.int 0 :: s) h) ∧
  (∀ (P : Nat × Nat) (l0 : Option Value) (l1 : Option Value) (l2 : Option Value) (l3 : Option Value) (x0 : Int32) (h : am_H), am_E P 130 531 [l0, l1, l2, l3] [.int x0] h = if x0 = 0 ∨ x0 = 1 then some (some (.int x0), h) else none) :=
  ⟨fun _ _ _ _ _ _ _ => er_go rfl rfl,
  fun _ _ _ _ _ _ _ => er_go rfl rfl,
  fun _ _ _ _ _ _ _ => er_go rfl rfl,
  fun _ _ _ _ _ _ _ => er_go rfl rfl,
  fun _ _ _ _ _ _ _ _ _ => er_go rfl rfl,
  fun _ _ _ _ _ _ _ _ _ => er_iald rfl,
  fun _ _ _ _ _ _ _ => er_go rfl rfl,
  fun _ _ _ _ _ _ _ => er_go rfl rfl,
  fun _ _ _ _ _ _ _ => er_go rfl rfl,
  fun _ _ _ _ _ _ _ _ _ => er_go rfl rfl,
  fun _ _ _ _ _ _ _ _ _ => er_iald rfl,
  fun _ _ _ _ _ _ _ => er_go rfl rfl,
  fun _ _ _ _ _ _ _ => er_go rfl rfl,
  fun _ _ _ _ _ _ _ => er_go rfl rfl,
  fun _ _ _ _ _ _ _ _ _ => er_go rfl rfl,
  fun _ _ _ _ _ _ _ _ _ => er_iald rfl,
  fun _ _ _ _ _ _ _ _ _ _ => er_callV rfl rfl rfl rfl,
  fun _ _ _ _ _ _ _ => er_go rfl rfl,
  fun _ _ _ _ _ _ _ => er_go rfl rfl,
  fun _ _ _ _ _ _ _ => er_go rfl rfl,
  fun _ _ _ _ _ _ _ => er_go rfl rfl,
  fun _ _ _ _ _ _ _ _ _ => er_go rfl rfl,
  fun _ _ _ _ _ _ _ _ _ => er_iald rfl,
  fun _ _ _ _ _ _ _ => er_go rfl rfl,
  fun _ _ _ _ _ _ _ => er_go rfl rfl,
  fun _ _ _ _ _ _ _ => er_go rfl rfl,
  fun _ _ _ _ _ _ _ _ _ => er_go rfl rfl,
  fun _ _ _ _ _ _ _ _ _ => er_iald rfl,
  fun _ _ _ _ _ _ _ => er_go rfl rfl,
  fun _ _ _ _ _ _ _ => er_go rfl rfl,
  fun _ _ _ _ _ _ _ => er_go rfl rfl,
  fun _ _ _ _ _ _ _ _ _ => er_go rfl rfl,
  fun _ _ _ _ _ _ _ _ _ => er_iald rfl,
  fun _ _ _ _ _ _ _ _ _ _ _ => er_callV rfl rfl rfl rfl,
  fun _ _ _ _ _ _ _ _ _ => er_go rfl rfl,
  fun _ _ _ _ _ _ _ _ => er_if_eq rfl,
  fun _ _ _ _ _ _ _ => er_go rfl rfl,
  fun _ _ _ _ _ _ _ => er_retZ rfl rfl⟩
set_option maxRecDepth 100000 in
theorem q130_c14 : (∀ (P : Nat × Nat) (l0 : Option Value) (l2 : Option Value) (l3 : Option Value) (a0 : Nat) (s : List Value) (h : am_H), am_E P 130 532 [l0, some (.ref a0), l2, l3] s h = am_E P 130 533 [l0, some (.ref a0), l2, l3] (.ref a0 :: s) h) ∧
  (∀ (P : Nat × Nat) (l1 : Option Value) (l2 : Option Value) (l3 : Option Value) (a0 : Nat) (s : List Value) (h : am_H), am_E P 130 533 [some (.ref a0), l1, l2, l3] s h = am_E P 130 534 [some (.ref a0), l1, l2, l3] (.ref a0 :: s) h) ∧
  (∀ (P : Nat × Nat) (l0 : Option Value) (l1 : Option Value) (l2 : Option Value) (x0 : Int32) (s : List Value) (h : am_H), am_E P 130 534 [l0, l1, l2, some (.int x0)] s h = am_E P 130 535 [l0, l1, l2, some (.int x0)] (.int x0 :: s) h) ∧
  (∀ (P : Nat × Nat) (l0 : Option Value) (l1 : Option Value) (l2 : Option Value) (l3 : Option Value) (s : List Value) (h : am_H), am_E P 130 535 [l0, l1, l2, l3] s h = am_E P 130 536 [l0, l1, l2, l3] (.int 1 :: s) h) ∧
  (∀ (P : Nat × Nat) (l0 : Option Value) (l1 : Option Value) (l2 : Option Value) (l3 : Option Value) (x0 : Int32) (x1 : Int32) (s : List Value) (h : am_H), am_E P 130 536 [l0, l1, l2, l3] (.int x1 :: .int x0 :: s) h = am_E P 130 537 [l0, l1, l2, l3] (.int (x0 + x1) :: s) h) ∧
  (∀ (P : Nat × Nat) (l0 : Option Value) (l1 : Option Value) (l2 : Option Value) (l3 : Option Value) (x0 : Int32) (a0 : Nat) (s : List Value) (h : am_H), am_E P 130 537 [l0, l1, l2, l3] (.int x0 :: .ref a0 :: s) h = (am_iald h a0 x0).bind (fun v => am_E P 130 538 [l0, l1, l2, l3] (.int v :: s) h)) ∧
  (∀ (P : Nat × Nat) (l0 : Option Value) (l1 : Option Value) (l2 : Option Value) (l3 : Option Value) (a0 : Nat) (x0 : Int32) (h : am_H), am_E P 130 538 [l0, l1, l2, l3] [.int x0, .ref a0] h = if am_cls h a0 = some 8 then (am_E P 47 0 [some (.ref a0), some (.int x0), none] [] h).bind (fun q => am_E P 130 541 [l0, l1, l2, l3] (q.1.toList ++ []) q.2) else none) ∧
  (∀ (P : Nat × Nat) (l0 : Option Value) (l1 : Option Value) (l3 : Option Value) (a0 : Nat) (s : List Value) (h : am_H), am_E P 130 541 [l0, l1, some (.ref a0), l3] s h = am_E P 130 542 [l0, l1, some (.ref a0), l3] (.ref a0 :: s) h) ∧
  (∀ (P : Nat × Nat) (l1 : Option Value) (l2 : Option Value) (l3 : Option Value) (a0 : Nat) (s : List Value) (h : am_H), am_E P 130 542 [some (.ref a0), l1, l2, l3] s h = am_E P 130 543 [some (.ref a0), l1, l2, l3] (.ref a0 :: s) h) ∧
  (∀ (P : Nat × Nat) (l0 : Option Value) (l1 : Option Value) (l2 : Option Value) (x0 : Int32) (s : List Value) (h : am_H), am_E P 130 543 [l0, l1, l2, some (.int x0)] s h = am_E P 130 544 [l0, l1, l2, some (.int x0)] (.int x0 :: s) h) ∧
  (∀ (P : Nat × Nat) (l0 : Option Value) (l1 : Option Value) (l2 : Option Value) (l3 : Option Value) (s : List Value) (h : am_H), am_E P 130 544 [l0, l1, l2, l3] s h = am_E P 130 545 [l0, l1, l2, l3] (.int 1 :: s) h) ∧
  (∀ (P : Nat × Nat) (l0 : Option Value) (l1 : Option Value) (l2 : Option Value) (l3 : Option Value) (x0 : Int32) (x1 : Int32) (s : List Value) (h : am_H), am_E P 130 545 [l0, l1, l2, l3] (.int x1 :: .int x0 :: s) h = am_E P 130 546 [l0, l1, l2, l3] (.int (x0 + x1) :: s) h) ∧
  (∀ (P : Nat × Nat) (l0 : Option Value) (l1 : Option Value) (l2 : Option Value) (l3 : Option Value) (x0 : Int32) (a0 : Nat) (s : List Value) (h : am_H), am_E P 130 546 [l0, l1, l2, l3] (.int x0 :: .ref a0 :: s) h = (am_iald h a0 x0).bind (fun v => am_E P 130 547 [l0, l1, l2, l3] (.int v :: s) h)) ∧
  (∀ (P : Nat × Nat) (l0 : Option Value) (l1 : Option Value) (l2 : Option Value) (l3 : Option Value) (a0 : Nat) (x0 : Int32) (v0 : Value) (h : am_H), am_E P 130 547 [l0, l1, l2, l3] [.int x0, .ref a0, v0] h = if am_cls h a0 = some 9 then (am_E P 104 0 [some (.ref a0), some (.int x0)] [] h).bind (fun q => am_E P 130 550 [l0, l1, l2, l3] (q.1.toList ++ [v0]) q.2) else none) ∧
  (∀ (P : Nat × Nat) (l0 : Option Value) (l1 : Option Value) (l2 : Option Value) (l3 : Option Value) (x0 : Int32) (x1 : Int32) (s : List Value) (h : am_H), am_E P 130 550 [l0, l1, l2, l3] (.int x1 :: .int x0 :: s) h = if x0 = x1 then am_E P 130 690 [l0, l1, l2, l3] s h else am_E P 130 553 [l0, l1, l2, l3] s h) ∧
  (∀ (P : Nat × Nat) (l0 : Option Value) (l1 : Option Value) (l2 : Option Value) (l3 : Option Value) (s : List Value) (h : am_H), am_E P 130 553 [l0, l1, l2, l3] s h = am_E P 130 554 [l0, l1, l2, l3] (.int 0 :: s) h) ∧
  (∀ (P : Nat × Nat) (l0 : Option Value) (l1 : Option Value) (l2 : Option Value) (l3 : Option Value) (x0 : Int32) (h : am_H), am_E P 130 554 [l0, l1, l2, l3] [.int x0] h = if x0 = 0 ∨ x0 = 1 then some (some (.int x0), h) else none) :=
  ⟨fun _ _ _ _ _ _ _ => er_go rfl rfl,
  fun _ _ _ _ _ _ _ => er_go rfl rfl,
  fun _ _ _ _ _ _ _ => er_go rfl rfl,
  fun _ _ _ _ _ _ _ => er_go rfl rfl,
  fun _ _ _ _ _ _ _ _ _ => er_go rfl rfl,
  fun _ _ _ _ _ _ _ _ _ => er_iald rfl,
  fun _ _ _ _ _ _ _ _ => er_callV rfl rfl rfl rfl,
  fun _ _ _ _ _ _ _ => er_go rfl rfl,
  fun _ _ _ _ _ _ _ => er_go rfl rfl,
  fun _ _ _ _ _ _ _ => er_go rfl rfl,
  fun _ _ _ _ _ _ _ => er_go rfl rfl,
  fun _ _ _ _ _ _ _ _ _ => er_go rfl rfl,
  fun _ _ _ _ _ _ _ _ _ => er_iald rfl,
  fun _ _ _ _ _ _ _ _ _ => er_callV rfl rfl rfl rfl,
  fun _ _ _ _ _ _ _ _ _ => er_ic_eq rfl,
  fun _ _ _ _ _ _ _ => er_go rfl rfl,
  fun _ _ _ _ _ _ _ => er_retZ rfl rfl⟩
set_option maxRecDepth 100000 in
theorem q130_c15 : (∀ (P : Nat × Nat) (l0 : Option Value) (l2 : Option Value) (l3 : Option Value) (a0 : Nat) (s : List Value) (h : am_H), am_E P 130 555 [l0, some (.ref a0), l2, l3] s h = am_E P 130 556 [l0, some (.ref a0), l2, l3] (.ref a0 :: s) h) ∧
  (∀ (P : Nat × Nat) (l1 : Option Value) (l2 : Option Value) (l3 : Option Value) (a0 : Nat) (s : List Value) (h : am_H), am_E P 130 556 [some (.ref a0), l1, l2, l3] s h = am_E P 130 557 [some (.ref a0), l1, l2, l3] (.ref a0 :: s) h) ∧
  (∀ (P : Nat × Nat) (l0 : Option Value) (l1 : Option Value) (l2 : Option Value) (x0 : Int32) (s : List Value) (h : am_H), am_E P 130 557 [l0, l1, l2, some (.int x0)] s h = am_E P 130 558 [l0, l1, l2, some (.int x0)] (.int x0 :: s) h) ∧
  (∀ (P : Nat × Nat) (l0 : Option Value) (l1 : Option Value) (l2 : Option Value) (l3 : Option Value) (s : List Value) (h : am_H), am_E P 130 558 [l0, l1, l2, l3] s h = am_E P 130 559 [l0, l1, l2, l3] (.int 1 :: s) h) ∧
  (∀ (P : Nat × Nat) (l0 : Option Value) (l1 : Option Value) (l2 : Option Value) (l3 : Option Value) (x0 : Int32) (x1 : Int32) (s : List Value) (h : am_H), am_E P 130 559 [l0, l1, l2, l3] (.int x1 :: .int x0 :: s) h = am_E P 130 560 [l0, l1, l2, l3] (.int (x0 + x1) :: s) h) ∧
  (∀ (P : Nat × Nat) (l0 : Option Value) (l1 : Option Value) (l2 : Option Value) (l3 : Option Value) (x0 : Int32) (a0 : Nat) (s : List Value) (h : am_H), am_E P 130 560 [l0, l1, l2, l3] (.int x0 :: .ref a0 :: s) h = (am_iald h a0 x0).bind (fun v => am_E P 130 561 [l0, l1, l2, l3] (.int v :: s) h)) ∧
  (∀ (P : Nat × Nat) (l1 : Option Value) (l2 : Option Value) (l3 : Option Value) (a0 : Nat) (s : List Value) (h : am_H), am_E P 130 561 [some (.ref a0), l1, l2, l3] s h = am_E P 130 562 [some (.ref a0), l1, l2, l3] (.ref a0 :: s) h) ∧
  (∀ (P : Nat × Nat) (l0 : Option Value) (l1 : Option Value) (l2 : Option Value) (x0 : Int32) (s : List Value) (h : am_H), am_E P 130 562 [l0, l1, l2, some (.int x0)] s h = am_E P 130 563 [l0, l1, l2, some (.int x0)] (.int x0 :: s) h) ∧
  (∀ (P : Nat × Nat) (l0 : Option Value) (l1 : Option Value) (l2 : Option Value) (l3 : Option Value) (s : List Value) (h : am_H), am_E P 130 563 [l0, l1, l2, l3] s h = am_E P 130 564 [l0, l1, l2, l3] (.int 2 :: s) h) ∧
  (∀ (P : Nat × Nat) (l0 : Option Value) (l1 : Option Value) (l2 : Option Value) (l3 : Option Value) (x0 : Int32) (x1 : Int32) (s : List Value) (h : am_H), am_E P 130 564 [l0, l1, l2, l3] (.int x1 :: .int x0 :: s) h = am_E P 130 565 [l0, l1, l2, l3] (.int (x0 + x1) :: s) h) ∧
  (∀ (P : Nat × Nat) (l0 : Option Value) (l1 : Option Value) (l2 : Option Value) (l3 : Option Value) (x0 : Int32) (a0 : Nat) (s : List Value) (h : am_H), am_E P 130 565 [l0, l1, l2, l3] (.int x0 :: .ref a0 :: s) h = (am_iald h a0 x0).bind (fun v => am_E P 130 566 [l0, l1, l2, l3] (.int v :: s) h)) ∧
  (∀ (P : Nat × Nat) (l0 : Option Value) (l1 : Option Value) (l2 : Option Value) (l3 : Option Value) (a0 : Nat) (x0 : Int32) (x1 : Int32) (h : am_H), am_E P 130 566 [l0, l1, l2, l3] [.int x1, .int x0, .ref a0] h = if am_cls h a0 = some 8 then (am_E P 48 0 [some (.ref a0), some (.int x0), some (.int x1), none] [] h).bind (fun q => am_E P 130 569 [l0, l1, l2, l3] (q.1.toList ++ []) q.2) else none) ∧
  (∀ (P : Nat × Nat) (l0 : Option Value) (l1 : Option Value) (l3 : Option Value) (a0 : Nat) (s : List Value) (h : am_H), am_E P 130 569 [l0, l1, some (.ref a0), l3] s h = am_E P 130 570 [l0, l1, some (.ref a0), l3] (.ref a0 :: s) h) ∧
  (∀ (P : Nat × Nat) (l1 : Option Value) (l2 : Option Value) (l3 : Option Value) (a0 : Nat) (s : List Value) (h : am_H), am_E P 130 570 [some (.ref a0), l1, l2, l3] s h = am_E P 130 571 [some (.ref a0), l1, l2, l3] (.ref a0 :: s) h) ∧
  (∀ (P : Nat × Nat) (l0 : Option Value) (l1 : Option Value) (l2 : Option Value) (x0 : Int32) (s : List Value) (h : am_H), am_E P 130 571 [l0, l1, l2, some (.int x0)] s h = am_E P 130 572 [l0, l1, l2, some (.int x0)] (.int x0 :: s) h) ∧
  (∀ (P : Nat × Nat) (l0 : Option Value) (l1 : Option Value) (l2 : Option Value) (l3 : Option Value) (s : List Value) (h : am_H), am_E P 130 572 [l0, l1, l2, l3] s h = am_E P 130 573 [l0, l1, l2, l3] (.int 1 :: s) h) ∧
  (∀ (P : Nat × Nat) (l0 : Option Value) (l1 : Option Value) (l2 : Option Value) (l3 : Option Value) (x0 : Int32) (x1 : Int32) (s : List Value) (h : am_H), am_E P 130 573 [l0, l1, l2, l3] (.int x1 :: .int x0 :: s) h = am_E P 130 574 [l0, l1, l2, l3] (.int (x0 + x1) :: s) h) ∧
  (∀ (P : Nat × Nat) (l0 : Option Value) (l1 : Option Value) (l2 : Option Value) (l3 : Option Value) (x0 : Int32) (a0 : Nat) (s : List Value) (h : am_H), am_E P 130 574 [l0, l1, l2, l3] (.int x0 :: .ref a0 :: s) h = (am_iald h a0 x0).bind (fun v => am_E P 130 575 [l0, l1, l2, l3] (.int v :: s) h)) ∧
  (∀ (P : Nat × Nat) (l1 : Option Value) (l2 : Option Value) (l3 : Option Value) (a0 : Nat) (s : List Value) (h : am_H), am_E P 130 575 [some (.ref a0), l1, l2, l3] s h = am_E P 130 576 [some (.ref a0), l1, l2, l3] (.ref a0 :: s) h) ∧
  (∀ (P : Nat × Nat) (l0 : Option Value) (l1 : Option Value) (l2 : Option Value) (x0 : Int32) (s : List Value) (h : am_H), am_E P 130 576 [l0, l1, l2, some (.int x0)] s h = am_E P 130 577 [l0, l1, l2, some (.int x0)] (.int x0 :: s) h) ∧
  (∀ (P : Nat × Nat) (l0 : Option Value) (l1 : Option Value) (l2 : Option Value) (l3 : Option Value) (s : List Value) (h : am_H), am_E P 130 577 [l0, l1, l2, l3] s h = am_E P 130 578 [l0, l1, l2, l3] (.int 2 :: s) h) ∧
  (∀ (P : Nat × Nat) (l0 : Option Value) (l1 : Option Value) (l2 : Option Value) (l3 : Option Value) (x0 : Int32) (x1 : Int32) (s : List Value) (h : am_H), am_E P 130 578 [l0, l1, l2, l3] (.int x1 :: .int x0 :: s) h = am_E P 130 579 [l0, l1, l2, l3] (.int (x0 + x1) :: s) h) ∧
  (∀ (P : Nat × Nat) (l0 : Option Value) (l1 : Option Value) (l2 : Option Value) (l3 : Option Value) (x0 : Int32) (a0 : Nat) (s : List Value) (h : am_H), am_E P 130 579 [l0, l1, l2, l3] (.int x0 :: .ref a0 :: s) h = (am_iald h a0 x0).bind (fun v => am_E P 130 580 [l0, l1, l2, l3] (.int v :: s) h)) ∧
  (∀ (P : Nat × Nat) (l0 : Option Value) (l1 : Option Value) (l2 : Option Value) (l3 : Option Value) (a0 : Nat) (x0 : Int32) (x1 : Int32) (v0 : Value) (h : am_H), am_E P 130 580 [l0, l1, l2, l3] [.int x1, .int x0, .ref a0, v0] h = if am_cls h a0 = some 9 then (am_E P 105 0 [some (.ref a0), some (.int x0), some (.int x1), none] [] h).bind (fun q => am_E P 130 583 [l0, l1, l2, l3] (q.1.toList ++ [v0]) q.2) else none) ∧
  (∀ (P : Nat × Nat) (l0 : Option Value) (l1 : Option Value) (l2 : Option Value) (l3 : Option Value) (x0 : Int32) (x1 : Int32) (s : List Value) (h : am_H), am_E P 130 583 [l0, l1, l2, l3] (.int x1 :: .int x0 :: s) h = if x0 = x1 then am_E P 130 690 [l0, l1, l2, l3] s h else am_E P 130 586 [l0, l1, l2, l3] s h) ∧
  (∀ (P : Nat × Nat) (l0 : Option Value) (l1 : Option Value) (l2 : Option Value) (l3 : Option Value) (s : List Value) (h : am_H), am_E P 130 586 [l0, l1, l2, l3] s h = am_E P 130 587 [l0, l1, l2, l3] (.int 0 :: s) h) ∧
  (∀ (P : Nat × Nat) (l0 : Option Value) (l1 : Option Value) (l2 : Option Value) (l3 : Option Value) (x0 : Int32) (h : am_H), am_E P 130 587 [l0, l1, l2, l3] [.int x0] h = if x0 = 0 ∨ x0 = 1 then some (some (.int x0), h) else none) :=
  ⟨fun _ _ _ _ _ _ _ => er_go rfl rfl,
  fun _ _ _ _ _ _ _ => er_go rfl rfl,
  fun _ _ _ _ _ _ _ => er_go rfl rfl,
  fun _ _ _ _ _ _ _ => er_go rfl rfl,
  fun _ _ _ _ _ _ _ _ _ => er_go rfl rfl,
  fun _ _ _ _ _ _ _ _ _ => er_iald rfl,
  fun _ _ _ _ _ _ _ => er_go rfl rfl,
  fun _ _ _ _ _ _ _ => er_go rfl rfl,
  fun _ _ _ _ _ _ _ => er_go rfl rfl,
  fun _ _ _ _ _ _ _ _ _ => er_go rfl rfl,
  fun _ _ _ _ _ _ _ _ _ => er_iald rfl,
  fun _ _ _ _ _ _ _ _ _ => er_callV rfl rfl rfl rfl,
  fun _ _ _ _ _ _ _ => er_go rfl rfl,
  fun _ _ _ _ _ _ _ => er_go rfl rfl,
  fun _ _ _ _ _ _ _ => er_go rfl rfl,
  fun _ _ _ _ _ _ _ => er_go rfl rfl,
  fun _ _ _ _ _ _ _ _ _ => er_go rfl rfl,
  fun _ _ _ _ _ _ _ _ _ => er_iald rfl,
  fun _ _ _ _ _ _ _ => er_go rfl rfl,
  fun _ _ _ _ _ _ _ => er_go rfl rfl,
  fun _ _ _ _ _ _ _ => er_go rfl rfl,
  fun _ _ _ _ _ _ _ _ _ => er_go rfl rfl,
  fun _ _ _ _ _ _ _ _ _ => er_iald rfl,
  fun _ _ _ _ _ _ _ _ _ _ => er_callV rfl rfl rfl rfl,
  fun _ _ _ _ _ _ _ _ _ => er_ic_eq rfl,
  fun _ _ _ _ _ _ _ => er_go rfl rfl,
  fun _ _ _ _ _ _ _ => er_retZ rfl rfl⟩
set_option maxRecDepth 100000 in
theorem q130_c16 : (∀ (P : Nat × Nat) (l0 : Option Value) (l2 : Option Value) (l3 : Option Value) (a0 : Nat) (s : List Value) (h : am_H), am_E P 130 588 [l0, some (.ref a0), l2, l3] s h = am_E P 130 589 [l0, some (.ref a0), l2, l3] (.ref a0 :: s) h) ∧
  (∀ (P : Nat × Nat) (l1 : Option Value) (l2 : Option Value) (l3 : Option Value) (a0 : Nat) (s : List Value) (h : am_H), am_E P 130 589 [some (.ref a0), l1, l2, l3] s h = am_E P 130 590 [some (.ref a0), l1, l2, l3] (.ref a0 :: s) h) ∧
  (∀ (P : Nat × Nat) (l0 : Option Value) (l1 : Option Value) (l2 : Option Value) (x0 : Int32) (s : List Value) (h : am_H), am_E P 130 590 [l0, l1, l2, some (.int x0)] s h = am_E P 130 591 [l0, l1, l2, some (.int x0)] (.int x0 :: s) h) ∧
  (∀ (P : Nat × Nat) (l0 : Option Value) (l1 : Option Value) (l2 : Option Value) (l3 : Option Value) (s : List Value) (h : am_H), am_E P 130 591 [l0, l1, l2, l3] s h = am_E P 130 592 [l0, l1, l2, l3] (.int 1 :: s) h) ∧
  (∀ (P : Nat × Nat) (l0 : Option Value) (l1 : Option Value) (l2 : Option Value) (l3 : Option Value) (x0 : Int32) (x1 : Int32) (s : List Value) (h : am_H), am_E P 130 592 [l0, l1, l2, l3] (.int x1 :: .int x0 :: s) h = am_E P 130 593 [l0, l1, l2, l3] (.int (x0 + x1) :: s) h) ∧
  (∀ (P : Nat × Nat) (l0 : Option Value) (l1 : Option Value) (l2 : Option Value) (l3 : Option Value) (x0 : Int32) (a0 : Nat) (s : List Value) (h : am_H), am_E P 130 593 [l0, l1, l2, l3] (.int x0 :: .ref a0 :: s) h = (am_iald h a0 x0).bind (fun v => am_E P 130 594 [l0, l1, l2, l3] (.int v :: s) h)) ∧
  (∀ (P : Nat × Nat) (l1 : Option Value) (l2 : Option Value) (l3 : Option Value) (a0 : Nat) (s : List Value) (h : am_H), am_E P 130 594 [some (.ref a0), l1, l2, l3] s h = am_E P 130 595 [some (.ref a0), l1, l2, l3] (.ref a0 :: s) h) ∧
  (∀ (P : Nat × Nat) (l0 : Option Value) (l1 : Option Value) (l2 : Option Value) (x0 : Int32) (s : List Value) (h : am_H), am_E P 130 595 [l0, l1, l2, some (.int x0)] s h = am_E P 130 596 [l0, l1, l2, some (.int x0)] (.int x0 :: s) h) ∧
  (∀ (P : Nat × Nat) (l0 : Option Value) (l1 : Option Value) (l2 : Option Value) (l3 : Option Value) (s : List Value) (h : am_H), am_E P 130 596 [l0, l1, l2, l3] s h = am_E P 130 597 [l0, l1, l2, l3] (.int 2 :: s) h) ∧
  (∀ (P : Nat × Nat) (l0 : Option Value) (l1 : Option Value) (l2 : Option Value) (l3 : Option Value) (x0 : Int32) (x1 : Int32) (s : List Value) (h : am_H), am_E P 130 597 [l0, l1, l2, l3] (.int x1 :: .int x0 :: s) h = am_E P 130 598 [l0, l1, l2, l3] (.int (x0 + x1) :: s) h) ∧
  (∀ (P : Nat × Nat) (l0 : Option Value) (l1 : Option Value) (l2 : Option Value) (l3 : Option Value) (x0 : Int32) (a0 : Nat) (s : List Value) (h : am_H), am_E P 130 598 [l0, l1, l2, l3] (.int x0 :: .ref a0 :: s) h = (am_iald h a0 x0).bind (fun v => am_E P 130 599 [l0, l1, l2, l3] (.int v :: s) h)) ∧
  (∀ (P : Nat × Nat) (l0 : Option Value) (l1 : Option Value) (l2 : Option Value) (l3 : Option Value) (a0 : Nat) (x0 : Int32) (x1 : Int32) (h : am_H), am_E P 130 599 [l0, l1, l2, l3] [.int x1, .int x0, .ref a0] h = if am_cls h a0 = some 8 then (am_E P 49 0 [some (.ref a0), some (.int x0), some (.int x1), none] [] h).bind (fun q => am_E P 130 602 [l0, l1, l2, l3] (q.1.toList ++ []) q.2) else none) ∧
  (∀ (P : Nat × Nat) (l0 : Option Value) (l1 : Option Value) (l3 : Option Value) (a0 : Nat) (s : List Value) (h : am_H), am_E P 130 602 [l0, l1, some (.ref a0), l3] s h = am_E P 130 603 [l0, l1, some (.ref a0), l3] (.ref a0 :: s) h) ∧
  (∀ (P : Nat × Nat) (l1 : Option Value) (l2 : Option Value) (l3 : Option Value) (a0 : Nat) (s : List Value) (h : am_H), am_E P 130 603 [some (.ref a0), l1, l2, l3] s h = am_E P 130 604 [some (.ref a0), l1, l2, l3] (.ref a0 :: s) h) ∧
  (∀ (P : Nat × Nat) (l0 : Option Value) (l1 : Option Value) (l2 : Option Value) (x0 : Int32) (s : List Value) (h : am_H), am_E P 130 604 [l0, l1, l2, some (.int x0)] s h = am_E P 130 605 [l0, l1, l2, some (.int x0)] (.int x0 :: s) h) ∧
  (∀ (P : Nat × Nat) (l0 : Option Value) (l1 : Option Value) (l2 : Option Value) (l3 : Option Value) (s : List Value) (h : am_H), am_E P 130 605 [l0, l1, l2, l3] s h = am_E P 130 606 [l0, l1, l2, l3] (.int 1 :: s) h) ∧
  (∀ (P : Nat × Nat) (l0 : Option Value) (l1 : Option Value) (l2 : Option Value) (l3 : Option Value) (x0 : Int32) (x1 : Int32) (s : List Value) (h : am_H), am_E P 130 606 [l0, l1, l2, l3] (.int x1 :: .int x0 :: s) h = am_E P 130 607 [l0, l1, l2, l3] (.int (x0 + x1) :: s) h) ∧
  (∀ (P : Nat × Nat) (l0 : Option Value) (l1 : Option Value) (l2 : Option Value) (l3 : Option Value) (x0 : Int32) (a0 : Nat) (s : List Value) (h : am_H), am_E P 130 607 [l0, l1, l2, l3] (.int x0 :: .ref a0 :: s) h = (am_iald h a0 x0).bind (fun v => am_E P 130 608 [l0, l1, l2, l3] (.int v :: s) h)) ∧
  (∀ (P : Nat × Nat) (l1 : Option Value) (l2 : Option Value) (l3 : Option Value) (a0 : Nat) (s : List Value) (h : am_H), am_E P 130 608 [some (.ref a0), l1, l2, l3] s h = am_E P 130 609 [some (.ref a0), l1, l2, l3] (.ref a0 :: s) h) ∧
  (∀ (P : Nat × Nat) (l0 : Option Value) (l1 : Option Value) (l2 : Option Value) (x0 : Int32) (s : List Value) (h : am_H), am_E P 130 609 [l0, l1, l2, some (.int x0)] s h = am_E P 130 610 [l0, l1, l2, some (.int x0)] (.int x0 :: s) h) ∧
  (∀ (P : Nat × Nat) (l0 : Option Value) (l1 : Option Value) (l2 : Option Value) (l3 : Option Value) (s : List Value) (h : am_H), am_E P 130 610 [l0, l1, l2, l3] s h = am_E P 130 611 [l0, l1, l2, l3] (.int 2 :: s) h) ∧
  (∀ (P : Nat × Nat) (l0 : Option Value) (l1 : Option Value) (l2 : Option Value) (l3 : Option Value) (x0 : Int32) (x1 : Int32) (s : List Value) (h : am_H), am_E P 130 611 [l0, l1, l2, l3] (.int x1 :: .int x0 :: s) h = am_E P 130 612 [l0, l1, l2, l3] (.int (x0 + x1) :: s) h) ∧
  (∀ (P : Nat × Nat) (l0 : Option Value) (l1 : Option Value) (l2 : Option Value) (l3 : Option Value) (x0 : Int32) (a0 : Nat) (s : List Value) (h : am_H), am_E P 130 612 [l0, l1, l2, l3] (.int x0 :: .ref a0 :: s) h = (am_iald h a0 x0).bind (fun v => am_E P 130 613 [l0, l1, l2, l3] (.int v :: s) h)) ∧
  (∀ (P : Nat × Nat) (l0 : Option Value) (l1 : Option Value) (l2 : Option Value) (l3 : Option Value) (a0 : Nat) (x0 : Int32) (x1 : Int32) (v0 : Value) (h : am_H), am_E P 130 613 [l0, l1, l2, l3] [.int x1, .int x0, .ref a0, v0] h = if am_cls h a0 = some 9 then (am_E P 106 0 [some (.ref a0), some (.int x0), some (.int x1), none, none] [] h).bind (fun q => am_E P 130 616 [l0, l1, l2, l3] (q.1.toList ++ [v0]) q.2) else none) ∧
  (∀ (P : Nat × Nat) (l0 : Option Value) (l1 : Option Value) (l2 : Option Value) (l3 : Option Value) (x0 : Int32) (x1 : Int32) (s : List Value) (h : am_H), am_E P 130 616 [l0, l1, l2, l3] (.int x1 :: .int x0 :: s) h = if x0 = x1 then am_E P 130 690 [l0, l1, l2, l3] s h else am_E P 130 619 [l0, l1, l2, l3] s h) ∧
  (∀ (P : Nat × Nat) (l0 : Option Value) (l1 : Option Value) (l2 : Option Value) (l3 : Option Value) (s : List Value) (h : am_H), am_E P 130 619 [l0, l1, l2, l3] s h = am_E P 130 620 [l0, l1, l2, l3] (.int 0 :: s) h) ∧
  (∀ (P : Nat × Nat) (l0 : Option Value) (l1 : Option Value) (l2 : Option Value) (l3 : Option Value) (x0 : Int32) (h : am_H), am_E P 130 620 [l0, l1, l2, l3] [.int x0] h = if x0 = 0 ∨ x0 = 1 then some (some (.int x0), h) else none) :=
  ⟨fun _ _ _ _ _ _ _ => er_go rfl rfl,
  fun _ _ _ _ _ _ _ => er_go rfl rfl,
  fun _ _ _ _ _ _ _ => er_go rfl rfl,
  fun _ _ _ _ _ _ _ => er_go rfl rfl,
  fun _ _ _ _ _ _ _ _ _ => er_go rfl rfl,
  fun _ _ _ _ _ _ _ _ _ => er_iald rfl,
  fun _ _ _ _ _ _ _ => er_go rfl rfl,
  fun _ _ _ _ _ _ _ => er_go rfl rfl,
  fun _ _ _ _ _ _ _ => er_go rfl rfl,
  fun _ _ _ _ _ _ _ _ _ => er_go rfl rfl,
  fun _ _ _ _ _ _ _ _ _ => er_iald rfl,
  fun _ _ _ _ _ _ _ _ _ => er_callV rfl rfl rfl rfl,
  fun _ _ _ _ _ _ _ => er_go rfl rfl,
  fun _ _ _ _ _ _ _ => er_go rfl rfl,
  fun _ _ _ _ _ _ _ => er_go rfl rfl,
  fun _ _ _ _ _ _ _ => er_go rfl rfl,
  fun _ _ _ _ _ _ _ _ _ => er_go rfl rfl,
  fun _ _ _ _ _ _ _ _ _ => er_iald rfl,
  fun _ _ _ _ _ _ _ => er_go rfl rfl,
  fun _ _ _ _ _ _ _ => er_go rfl rfl,
  fun _ _ _ _ _ _ _ => er_go rfl rfl,
  fun _ _ _ _ _ _ _ _ _ => er_go rfl rfl,
  fun _ _ _ _ _ _ _ _ _ => er_iald rfl,
  fun _ _ _ _ _ _ _ _ _ _ => er_callV rfl rfl rfl rfl,
  fun _ _ _ _ _ _ _ _ _ => er_ic_eq rfl,
  fun _ _ _ _ _ _ _ => er_go rfl rfl,
  fun _ _ _ _ _ _ _ => er_retZ rfl rfl⟩
set_option maxRecDepth 100000 in
theorem q130_c17 : (∀ (P : Nat × Nat) (l0 : Option Value) (l2 : Option Value) (l3 : Option Value) (a0 : Nat) (s : List Value) (h : am_H), am_E P 130 621 [l0, some (.ref a0), l2, l3] s h = am_E P 130 622 [l0, some (.ref a0), l2, l3] (.ref a0 :: s) h) ∧
  (∀ (P : Nat × Nat) (l1 : Option Value) (l2 : Option Value) (l3 : Option Value) (a0 : Nat) (s : List Value) (h : am_H), am_E P 130 622 [some (.ref a0), l1, l2, l3] s h = am_E P 130 623 [some (.ref a0), l1, l2, l3] (.ref a0 :: s) h) ∧
  (∀ (P : Nat × Nat) (l0 : Option Value) (l1 : Option Value) (l2 : Option Value) (x0 : Int32) (s : List Value) (h : am_H), am_E P 130 623 [l0, l1, l2, some (.int x0)] s h = am_E P 130 624 [l0, l1, l2, some (.int x0)] (.int x0 :: s) h) ∧
  (∀ (P : Nat × Nat) (l0 : Option Value) (l1 : Option Value) (l2 : Option Value) (l3 : Option Value) (s : List Value) (h : am_H), am_E P 130 624 [l0, l1, l2, l3] s h = am_E P 130 625 [l0, l1, l2, l3] (.int 1 :: s) h) ∧
  (∀ (P : Nat × Nat) (l0 : Option Value) (l1 : Option Value) (l2 : Option Value) (l3 : Option Value) (x0 : Int32) (x1 : Int32) (s : List Value) (h : am_H), am_E P 130 625 [l0, l1, l2, l3] (.int x1 :: .int x0 :: s) h = am_E P 130 626 [l0, l1, l2, l3] (.int (x0 + x1) :: s) h) ∧
  (∀ (P : Nat × Nat) (l0 : Option Value) (l1 : Option Value) (l2 : Option Value) (l3 : Option Value) (x0 : Int32) (a0 : Nat) (s : List Value) (h : am_H), am_E P 130 626 [l0, l1, l2, l3] (.int x0 :: .ref a0 :: s) h = (am_iald h a0 x0).bind (fun v => am_E P 130 627 [l0, l1, l2, l3] (.int v :: s) h)) ∧
  (∀ (P : Nat × Nat) (l1 : Option Value) (l2 : Option Value) (l3 : Option Value) (a0 : Nat) (s : List Value) (h : am_H), am_E P 130 627 [some (.ref a0), l1, l2, l3] s h = am_E P 130 628 [some (.ref a0), l1, l2, l3] (.ref a0 :: s) h) ∧
  (∀ (P : Nat × Nat) (l0 : Option Value) (l1 : Option Value) (l2 : Option Value) (x0 : Int32) (s : List Value) (h : am_H), am_E P 130 628 [l0, l1, l2, some (.int x0)] s h = am_E P 130 629 [l0, l1, l2, some (.int x0)] (.int x0 :: s) h) ∧
  (∀ (P : Nat × Nat) (l0 : Option Value) (l1 : Option Value) (l2 : Option Value) (l3 : Option Value) (s : List Value) (h : am_H), am_E P 130 629 [l0, l1, l2, l3] s h = am_E P 130 630 [l0, l1, l2, l3] (.int 2 :: s) h) ∧
  (∀ (P : Nat × Nat) (l0 : Option Value) (l1 : Option Value) (l2 : Option Value) (l3 : Option Value) (x0 : Int32) (x1 : Int32) (s : List Value) (h : am_H), am_E P 130 630 [l0, l1, l2, l3] (.int x1 :: .int x0 :: s) h = am_E P 130 631 [l0, l1, l2, l3] (.int (x0 + x1) :: s) h) ∧
  (∀ (P : Nat × Nat) (l0 : Option Value) (l1 : Option Value) (l2 : Option Value) (l3 : Option Value) (x0 : Int32) (a0 : Nat) (s : List Value) (h : am_H), am_E P 130 631 [l0, l1, l2, l3] (.int x0 :: .ref a0 :: s) h = (am_iald h a0 x0).bind (fun v => am_E P 130 632 [l0, l1, l2, l3] (.int v :: s) h)) ∧
  (∀ (P : Nat × Nat) (l0 : Option Value) (l1 : Option Value) (l2 : Option Value) (l3 : Option Value) (a0 : Nat) (x0 : Int32) (x1 : Int32) (h : am_H), am_E P 130 632 [l0, l1, l2, l3] [.int x1, .int x0, .ref a0] h = if am_cls h a0 = some 8 then (am_E P 50 0 [some (.ref a0), some (.int x0), some (.int x1)] [] h).bind (fun q => am_E P 130 635 [l0, l1, l2, l3] (q.1.toList ++ []) q.2) else none) ∧
  (∀ (P : Nat × Nat) (l0 : Option Value) (l1 : Option Value) (l3 : Option Value) (a0 : Nat) (s : List Value) (h : am_H), am_E P 130 635 [l0, l1, some (.ref a0), l3] s h = am_E P 130 636 [l0, l1, some (.ref a0), l3] (.ref a0 :: s) h) ∧
  (∀ (P : Nat × Nat) (l1 : Option Value) (l2 : Option Value) (l3 : Option Value) (a0 : Nat) (s : List Value) (h : am_H), am_E P 130 636 [some (.ref a0), l1, l2, l3] s h = am_E P 130 637 [some (.ref a0), l1, l2, l3] (.ref a0 :: s) h) ∧
  (∀ (P : Nat × Nat) (l0 : Option Value) (l1 : Option Value) (l2 : Option Value) (x0 : Int32) (s : List Value) (h : am_H), am_E P 130 637 [l0, l1, l2, some (.int x0)] s h = am_E P 130 638 [l0, l1, l2, some (.int x0)] (.int x0 :: s) h) ∧
  (∀ (P : Nat × Nat) (l0 : Option Value) (l1 : Option Value) (l2 : Option Value) (l3 : Option Value) (s : List Value) (h : am_H), am_E P 130 638 [l0, l1, l2, l3] s h = am_E P 130 639 [l0, l1, l2, l3] (.int 1 :: s) h) ∧
  (∀ (P : Nat × Nat) (l0 : Option Value) (l1 : Option Value) (l2 : Option Value) (l3 : Option Value) (x0 : Int32) (x1 : Int32) (s : List Value) (h : am_H), am_E P 130 639 [l0, l1, l2, l3] (.int x1 :: .int x0 :: s) h = am_E P 130 640 [l0, l1, l2, l3] (.int (x0 + x1) :: s) h) ∧
  (∀ (P : Nat × Nat) (l0 : Option Value) (l1 : Option Value) (l2 : Option Value) (l3 : Option Value) (x0 : Int32) (a0 : Nat) (s : List Value) (h : am_H), am_E P 130 640 [l0, l1, l2, l3] (.int x0 :: .ref a0 :: s) h = (am_iald h a0 x0).bind (fun v => am_E P 130 641 [l0, l1, l2, l3] (.int v :: s) h)) ∧
  (∀ (P : Nat × Nat) (l1 : Option Value) (l2 : Option Value) (l3 : Option Value) (a0 : Nat) (s : List Value) (h : am_H), am_E P 130 641 [some (.ref a0), l1, l2, l3] s h = am_E P 130 642 [some (.ref a0), l1, l2, l3] (.ref a0 :: s) h) ∧
  (∀ (P : Nat × Nat) (l0 : Option Value) (l1 : Option Value) (l2 : Option Value) (x0 : Int32) (s : List Value) (h : am_H), am_E P 130 642 [l0, l1, l2, some (.int x0)] s h = am_E P 130 643 [l0, l1, l2, some (.int x0)] (.int x0 :: s) h) ∧
  (∀ (P : Nat × Nat) (l0 : Option Value) (l1 : Option Value) (l2 : Option Value) (l3 : Option Value) (s : List Value) (h : am_H), am_E P 130 643 [l0, l1, l2, l3] s h = am_E P 130 644 [l0, l1, l2, l3] (.int 2 :: s) h) ∧
  (∀ (P : Nat × Nat) (l0 : Option Value) (l1 : Option Value) (l2 : Option Value) (l3 : Option Value) (x0 : Int32) (x1 : Int32) (s : List Value) (h : am_H), am_E P 130 644 [l0, l1, l2, l3] (.int x1 :: .int x0 :: s) h = am_E P 130 645 [l0, l1, l2, l3] (.int (x0 + x1) :: s) h) ∧
  (∀ (P : Nat × Nat) (l0 : Option Value) (l1 : Option Value) (l2 : Option Value) (l3 : Option Value) (x0 : Int32) (a0 : Nat) (s : List Value) (h : am_H), am_E P 130 645 [l0, l1, l2, l3] (.int x0 :: .ref a0 :: s) h = (am_iald h a0 x0).bind (fun v => am_E P 130 646 [l0, l1, l2, l3] (.int v :: s) h)) ∧
  (∀ (P : Nat × Nat) (l0 : Option Value) (l1 : Option Value) (l2 : Option Value) (l3 : Option Value) (a0 : Nat) (x0 : Int32) (x1 : Int32) (v0 : Value) (h : am_H), am_E P 130 646 [l0, l1, l2, l3] [.int x1, .int x0, .ref a0, v0] h = if am_cls h a0 = some 9 then (am_E P 107 0 [some (.ref a0), some (.int x0), some (.int x1)] [] h).bind (fun q => am_E P 130 649 [l0, l1, l2, l3] (q.1.toList ++ [v0]) q.2) else none) ∧
  (∀ (P : Nat × Nat) (l0 : Option Value) (l1 : Option Value) (l2 : Option Value) (l3 : Option Value) (x0 : Int32) (x1 : Int32) (s : List Value) (h : am_H), am_E P 130 649 [l0, l1, l2, l3] (.int x1 :: .int x0 :: s) h = if x0 = x1 then am_E P 130 690 [l0, l1, l2, l3] s h else am_E P 130 652 [l0, l1, l2, l3] s h) ∧
  (∀ (P : Nat × Nat) (l0 : Option Value) (l1 : Option Value) (l2 : Option Value) (l3 : Option Value) (s : List Value) (h : am_H), am_E P 130 652 [l0, l1, l2, l3] s h = am_E P 130 653 [l0, l1, l2, l3] (.int 0 :: s) h) ∧
  (∀ (P : Nat × Nat) (l0 : Option Value) (l1 : Option Value) (l2 : Option Value) (l3 : Option Value) (x0 : Int32) (h : am_H), am_E P 130 653 [l0, l1, l2, l3] [.int x0] h = if x0 = 0 ∨ x0 = 1 then some (some (.int x0), h) else none) :=
  ⟨fun _ _ _ _ _ _ _ => er_go rfl rfl,
  fun _ _ _ _ _ _ _ => er_go rfl rfl,
  fun _ _ _ _ _ _ _ => er_go rfl rfl,
  fun _ _ _ _ _ _ _ => er_go rfl rfl,
  fun _ _ _ _ _ _ _ _ _ => er_go rfl rfl,
  fun _ _ _ _ _ _ _ _ _ => er_iald rfl,
  fun _ _ _ _ _ _ _ => er_go rfl rfl,
  fun _ _ _ _ _ _ _ => er_go rfl rfl,
  fun _ _ _ _ _ _ _ => er_go rfl rfl,
  fun _ _ _ _ _ _ _ _ _ => er_go rfl rfl,
  fun _ _ _ _ _ _ _ _ _ => er_iald rfl,
  fun _ _ _ _ _ _ _ _ _ => er_callV rfl rfl rfl rfl,
  fun _ _ _ _ _ _ _ => er_go rfl rfl,
  fun _ _ _ _ _ _ _ => er_go rfl rfl,
  fun _ _ _ _ _ _ _ => er_go rfl rfl,
  fun _ _ _ _ _ _ _ => er_go rfl rfl,
  fun _ _ _ _ _ _ _ _ _ => er_go rfl rfl,
  fun _ _ _ _ _ _ _ _ _ => er_iald rfl,
  fun _ _ _ _ _ _ _ => er_go rfl rfl,
  fun _ _ _ _ _ _ _ => er_go rfl rfl,
  fun _ _ _ _ _ _ _ => er_go rfl rfl,
  fun _ _ _ _ _ _ _ _ _ => er_go rfl rfl,
  fun _ _ _ _ _ _ _ _ _ => er_iald rfl,
  fun _ _ _ _ _ _ _ _ _ _ => er_callV rfl rfl rfl rfl,
  fun _ _ _ _ _ _ _ _ _ => er_ic_eq rfl,
  fun _ _ _ _ _ _ _ => er_go rfl rfl,
  fun _ _ _ _ _ _ _ => er_retZ rfl rfl⟩
set_option maxRecDepth 100000 in
theorem q130_c18 : (∀ (P : Nat × Nat) (l0 : Option Value) (l2 : Option Value) (l3 : Option Value) (a0 : Nat) (s : List Value) (h : am_H), am_E P 130 654 [l0, some (.ref a0), l2, l3] s h = am_E P 130 655 [l0, some (.ref a0), l2, l3] (.ref a0 :: s) h) ∧
  (∀ (P : Nat × Nat) (l1 : Option Value) (l2 : Option Value) (l3 : Option Value) (a0 : Nat) (s : List Value) (h : am_H), am_E P 130 655 [some (.ref a0), l1, l2, l3] s h = am_E P 130 656 [some (.ref a0), l1, l2, l3] (.ref a0 :: s) h) ∧
  (∀ (P : Nat × Nat) (l0 : Option Value) (l1 : Option Value) (l2 : Option Value) (x0 : Int32) (s : List Value) (h : am_H), am_E P 130 656 [l0, l1, l2, some (.int x0)] s h = am_E P 130 657 [l0, l1, l2, some (.int x0)] (.int x0 :: s) h) ∧
  (∀ (P : Nat × Nat) (l0 : Option Value) (l1 : Option Value) (l2 : Option Value) (l3 : Option Value) (s : List Value) (h : am_H), am_E P 130 657 [l0, l1, l2, l3] s h = am_E P 130 658 [l0, l1, l2, l3] (.int 1 :: s) h) ∧
  (∀ (P : Nat × Nat) (l0 : Option Value) (l1 : Option Value) (l2 : Option Value) (l3 : Option Value) (x0 : Int32) (x1 : Int32) (s : List Value) (h : am_H), am_E P 130 658 [l0, l1, l2, l3] (.int x1 :: .int x0 :: s) h = am_E P 130 659 [l0, l1, l2, l3] (.int (x0 + x1) :: s) h) ∧
  (∀ (P : Nat × Nat) (l0 : Option Value) (l1 : Option Value) (l2 : Option Value) (l3 : Option Value) (x0 : Int32) (a0 : Nat) (s : List Value) (h : am_H), am_E P 130 659 [l0, l1, l2, l3] (.int x0 :: .ref a0 :: s) h = (am_iald h a0 x0).bind (fun v => am_E P 130 660 [l0, l1, l2, l3] (.int v :: s) h)) ∧
  (∀ (P : Nat × Nat) (l0 : Option Value) (l1 : Option Value) (l2 : Option Value) (l3 : Option Value) (a0 : Nat) (x0 : Int32) (h : am_H), am_E P 130 660 [l0, l1, l2, l3] [.int x0, .ref a0] h = if am_cls h a0 = some 8 then (am_E P 51 0 [some (.ref a0), some (.int x0)] [] h).bind (fun q => am_E P 130 663 [l0, l1, l2, l3] (q.1.toList ++ []) q.2) else none) ∧
  (∀ (P : Nat × Nat) (l0 : Option Value) (l1 : Option Value) (l3 : Option Value) (a0 : Nat) (s : List Value) (h : am_H), am_E P 130 663 [l0, l1, some (.ref a0), l3] s h = am_E P 130 664 [l0, l1, some (.ref a0), l3] (.ref a0 :: s) h) ∧
  (∀ (P : Nat × Nat) (l1 : Option Value) (l2 : Option Value) (l3 : Option Value) (a0 : Nat) (s : List Value) (h : am_H), am_E P 130 664 [some (.ref a0), l1, l2, l3] s h = am_E P 130 665 [some (.ref a0), l1, l2, l3] (.ref a0 :: s) h) ∧
  (∀ (P : Nat × Nat) (l0 : Option Value) (l1 : Option Value) (l2 : Option Value) (x0 : Int32) (s : List Value) (h : am_H), am_E P 130 665 [l0, l1, l2, some (.int x0)] s h = am_E P 130 666 [l0, l1, l2, some (.int x0)] (.int x0 :: s) h) ∧
  (∀ (P : Nat × Nat) (l0 : Option Value) (l1 : Option Value) (l2 : Option Value) (l3 : Option Value) (s : List Value) (h : am_H), am_E P 130 666 [l0, l1, l2, l3] s h = am_E P 130 667 [l0, l1, l2, l3] (.int 1 :: s) h) ∧
  (∀ (P : Nat × Nat) (l0 : Option Value) (l1 : Option Value) (l2 : Option Value) (l3 : Option Value) (x0 : Int32) (x1 : Int32) (s : List Value) (h : am_H), am_E P 130 667 [l0, l1, l2, l3] (.int x1 :: .int x0 :: s) h = am_E P 130 668 [l0, l1, l2, l3] (.int (x0 + x1) :: s) h) ∧
  (∀ (P : Nat × Nat) (l0 : Option Value) (l1 : Option Value) (l2 : Option Value) (l3 : Option Value) (x0 : Int32) (a0 : Nat) (s : List Value) (h : am_H), am_E P 130 668 [l0, l1, l2, l3] (.int x0 :: .ref a0 :: s) h = (am_iald h a0 x0).bind (fun v => am_E P 130 669 [l0, l1, l2, l3] (.int v :: s) h)) ∧
  (∀ (P : Nat × Nat) (l0 : Option Value) (l1 : Option Value) (l2 : Option Value) (l3 : Option Value) (a0 : Nat) (x0 : Int32) (v0 : Value) (h : am_H), am_E P 130 669 [l0, l1, l2, l3] [.int x0, .ref a0, v0] h = if am_cls h a0 = some 9 then (am_E P 108 0 [some (.ref a0), some (.int x0)] [] h).bind (fun q => am_E P 130 672 [l0, l1, l2, l3] (q.1.toList ++ [v0]) q.2) else none) ∧
  (∀ (P : Nat × Nat) (l0 : Option Value) (l1 : Option Value) (l2 : Option Value) (l3 : Option Value) (x0 : Int32) (x1 : Int32) (s : List Value) (h : am_H), am_E P 130 672 [l0, l1, l2, l3] (.int x1 :: .int x0 :: s) h = if x0 = x1 then am_E P 130 690 [l0, l1, l2, l3] s h else am_E P 130 675 [l0, l1, l2, l3] s h) ∧
  (∀ (P : Nat × Nat) (l0 : Option Value) (l1 : Option Value) (l2 : Option Value) (l3 : Option Value) (s : List Value) (h : am_H), am_E P 130 675 [l0, l1, l2, l3] s h = am_E P 130 676 [l0, l1, l2, l3] (.int 0 :: s) h) ∧
  (∀ (P : Nat × Nat) (l0 : Option Value) (l1 : Option Value) (l2 : Option Value) (l3 : Option Value) (x0 : Int32) (h : am_H), am_E P 130 676 [l0, l1, l2, l3] [.int x0] h = if x0 = 0 ∨ x0 = 1 then some (some (.int x0), h) else none) :=
  ⟨fun _ _ _ _ _ _ _ => er_go rfl rfl,
  fun _ _ _ _ _ _ _ => er_go rfl rfl,
  fun _ _ _ _ _ _ _ => er_go rfl rfl,
  fun _ _ _ _ _ _ _ => er_go rfl rfl,
  fun _ _ _ _ _ _ _ _ _ => er_go rfl rfl,
  fun _ _ _ _ _ _ _ _ _ => er_iald rfl,
  fun _ _ _ _ _ _ _ _ => er_callV rfl rfl rfl rfl,
  fun _ _ _ _ _ _ _ => er_go rfl rfl,
  fun _ _ _ _ _ _ _ => er_go rfl rfl,
  fun _ _ _ _ _ _ _ => er_go rfl rfl,
  fun _ _ _ _ _ _ _ => er_go rfl rfl,
  fun _ _ _ _ _ _ _ _ _ => er_go rfl rfl,
  fun _ _ _ _ _ _ _ _ _ => er_iald rfl,
  fun _ _ _ _ _ _ _ _ _ => er_callV rfl rfl rfl rfl,
  fun _ _ _ _ _ _ _ _ _ => er_ic_eq rfl,
  fun _ _ _ _ _ _ _ => er_go rfl rfl,
  fun _ _ _ _ _ _ _ => er_retZ rfl rfl⟩
set_option maxRecDepth 100000 in
theorem q130_c19 : (∀ (P : Nat × Nat) (l0 : Option Value) (l2 : Option Value) (l3 : Option Value) (a0 : Nat) (s : List Value) (h : am_H), am_E P 130 677 [l0, some (.ref a0), l2, l3] s h = am_E P 130 678 [l0, some (.ref a0), l2, l3] (.ref a0 :: s) h) ∧
  (∀ (P : Nat × Nat) (l0 : Option Value) (l1 : Option Value) (l2 : Option Value) (l3 : Option Value) (a0 : Nat) (h : am_H), am_E P 130 678 [l0, l1, l2, l3] [.ref a0] h = if am_cls h a0 = some 8 then (am_E P 52 0 [some (.ref a0), none, none, none, none, none, none] [] h).bind (fun q => am_E P 130 681 [l0, l1, l2, l3] (q.1.toList ++ []) q.2) else none) ∧
  (∀ (P : Nat × Nat) (l0 : Option Value) (l1 : Option Value) (l3 : Option Value) (a0 : Nat) (s : List Value) (h : am_H), am_E P 130 681 [l0, l1, some (.ref a0), l3] s h = am_E P 130 682 [l0, l1, some (.ref a0), l3] (.ref a0 :: s) h) ∧
  (∀ (P : Nat × Nat) (l0 : Option Value) (l1 : Option Value) (l2 : Option Value) (l3 : Option Value) (a0 : Nat) (v0 : Value) (h : am_H), am_E P 130 682 [l0, l1, l2, l3] [.ref a0, v0] h = if am_cls h a0 = some 9 then (am_E P 109 0 [some (.ref a0), none, none, none, none, none, none] [] h).bind (fun q => am_E P 130 685 [l0, l1, l2, l3] (q.1.toList ++ [v0]) q.2) else none) ∧
  (∀ (P : Nat × Nat) (l0 : Option Value) (l1 : Option Value) (l2 : Option Value) (l3 : Option Value) (x0 : Int32) (x1 : Int32) (s : List Value) (h : am_H), am_E P 130 685 [l0, l1, l2, l3] (.int x1 :: .int x0 :: s) h = if x0 = x1 then am_E P 130 690 [l0, l1, l2, l3] s h else am_E P 130 688 [l0, l1, l2, l3] s h) ∧
  (∀ (P : Nat × Nat) (l0 : Option Value) (l1 : Option Value) (l2 : Option Value) (l3 : Option Value) (s : List Value) (h : am_H), am_E P 130 688 [l0, l1, l2, l3] s h = am_E P 130 689 [l0, l1, l2, l3] (.int 0 :: s) h) ∧
  (∀ (P : Nat × Nat) (l0 : Option Value) (l1 : Option Value) (l2 : Option Value) (l3 : Option Value) (x0 : Int32) (h : am_H), am_E P 130 689 [l0, l1, l2, l3] [.int x0] h = if x0 = 0 ∨ x0 = 1 then some (some (.int x0), h) else none) :=
  ⟨fun _ _ _ _ _ _ _ => er_go rfl rfl,
  fun _ _ _ _ _ _ _ => er_callV rfl rfl rfl rfl,
  fun _ _ _ _ _ _ _ => er_go rfl rfl,
  fun _ _ _ _ _ _ _ _ => er_callV rfl rfl rfl rfl,
  fun _ _ _ _ _ _ _ _ _ => er_ic_eq rfl,
  fun _ _ _ _ _ _ _ => er_go rfl rfl,
  fun _ _ _ _ _ _ _ => er_retZ rfl rfl⟩
set_option maxRecDepth 100000 in
theorem q130_e : (∀ (P : Nat × Nat) (l0 : Option Value) (l1 : Option Value) (l2 : Option Value) (x0 : Int32) (s : List Value) (h : am_H), am_E P 130 690 [l0, l1, l2, some (.int x0)] s h = am_E P 130 693 [l0, l1, l2, some (.int (x0 + 4))] s h) ∧
  (∀ (P : Nat × Nat) (l0 : Option Value) (l1 : Option Value) (l2 : Option Value) (l3 : Option Value) (s : List Value) (h : am_H), am_E P 130 693 [l0, l1, l2, l3] s h = am_E P 130 18 [l0, l1, l2, l3] s h) ∧
  (∀ (P : Nat × Nat) (l0 : Option Value) (l1 : Option Value) (l2 : Option Value) (l3 : Option Value) (s : List Value) (h : am_H), am_E P 130 696 [l0, l1, l2, l3] s h = am_E P 130 697 [l0, l1, l2, l3] (.int 1 :: s) h) ∧
  (∀ (P : Nat × Nat) (l0 : Option Value) (l1 : Option Value) (l2 : Option Value) (l3 : Option Value) (x0 : Int32) (h : am_H), am_E P 130 697 [l0, l1, l2, l3] [.int x0] h = if x0 = 0 ∨ x0 = 1 then some (some (.int x0), h) else none) :=
  ⟨fun _ _ _ _ _ _ _ => er_go rfl rfl,
  fun _ _ _ _ _ _ _ => er_go rfl rfl,
  fun _ _ _ _ _ _ _ => er_go rfl rfl,
  fun _ _ _ _ _ _ _ => er_retZ rfl rfl⟩
