/-! Printed by a program of ours (wip/whole/gen/emit_rows.py): what am_E does at each instruction. -/
set_option maxRecDepth 100000 in
/-- TwoStepOutputsModel.about(II)I -/
theorem r100 : (∀ (P : Nat × Nat) (l1 : Option Value) (l2 : Option Value) (l3 : Option Value) (l4 : Option Value) (l5 : Option Value) (a0 : Nat) (s : List Value) (h : am_H), am_E P 100 0 [some (.ref a0), l1, l2, l3, l4, l5] s h = am_E P 100 1 [some (.ref a0), l1, l2, l3, l4, l5] (.ref a0 :: s) h) ∧
  (∀ (P : Nat × Nat) (l1 : Option Value) (l2 : Option Value) (l3 : Option Value) (l4 : Option Value) (l5 : Option Value) (s : List Value) (h : am_H), am_E P 100 0 [some .null, l1, l2, l3, l4, l5] s h = am_E P 100 1 [some .null, l1, l2, l3, l4, l5] (.null :: s) h) ∧
  (∀ (P : Nat × Nat) (l0 : Option Value) (l2 : Option Value) (l3 : Option Value) (l4 : Option Value) (l5 : Option Value) (x0 : Int32) (s : List Value) (h : am_H), am_E P 100 1 [l0, some (.int x0), l2, l3, l4, l5] s h = am_E P 100 2 [l0, some (.int x0), l2, l3, l4, l5] (.int x0 :: s) h) ∧
  (∀ (P : Nat × Nat) (l0 : Option Value) (l1 : Option Value) (l2 : Option Value) (l3 : Option Value) (l4 : Option Value) (l5 : Option Value) (a0 : Nat) (x0 : Int32) (h : am_H), am_E P 100 2 [l0, l1, l2, l3, l4, l5] [.int x0, .ref a0] h = if am_cls h a0 = some 9 then (am_E P 75 0 [some (.ref a0), some (.int x0)] [] h).bind (fun q => am_E P 100 5 [l0, l1, l2, l3, l4, l5] (q.1.toList ++ []) q.2) else none) ∧
  (∀ (P : Nat × Nat) (l0 : Option Value) (l1 : Option Value) (l2 : Option Value) (l3 : Option Value) (l4 : Option Value) (l5 : Option Value) (x0 : Int32) (s : List Value) (h : am_H), am_E P 100 5 [l0, l1, l2, l3, l4, l5] (.int x0 :: s) h = if x0 = 0 then am_E P 100 10 [l0, l1, l2, l3, l4, l5] s h else am_E P 100 8 [l0, l1, l2, l3, l4, l5] s h) ∧
  (∀ (P : Nat × Nat) (l0 : Option Value) (l1 : Option Value) (l2 : Option Value) (l3 : Option Value) (l4 : Option Value) (l5 : Option Value) (s : List Value) (h : am_H), am_E P 100 8 [l0, l1, l2, l3, l4, l5] s h = am_E P 100 9 [l0, l1, l2, l3, l4, l5] (.int (-1) :: s) h) ∧
  (∀ (P : Nat × Nat) (l0 : Option Value) (l1 : Option Value) (l2 : Option Value) (l3 : Option Value) (l4 : Option Value) (l5 : Option Value) (x0 : Int32) (h : am_H), am_E P 100 9 [l0, l1, l2, l3, l4, l5] [.int x0] h = some (some (.int x0), h)) ∧
  (∀ (P : Nat × Nat) (l0 : Option Value) (l1 : Option Value) (l3 : Option Value) (l4 : Option Value) (l5 : Option Value) (x0 : Int32) (s : List Value) (h : am_H), am_E P 100 10 [l0, l1, some (.int x0), l3, l4, l5] s h = am_E P 100 11 [l0, l1, some (.int x0), l3, l4, l5] (.int x0 :: s) h) ∧
  (∀ (P : Nat × Nat) (l0 : Option Value) (l1 : Option Value) (l2 : Option Value) (l3 : Option Value) (l4 : Option Value) (l5 : Option Value) (x0 : Int32) (s : List Value) (h : am_H), am_E P 100 11 [l0, l1, l2, l3, l4, l5] (.int x0 :: s) h = if x0 = 0 then am_E P 100 52 [l0, l1, l2, l3, l4, l5] s h else if x0 = 1 then am_E P 100 59 [l0, l1, l2, l3, l4, l5] s h else if x0 = 2 then am_E P 100 66 [l0, l1, l2, l3, l4, l5] s h else if x0 = 3 then am_E P 100 73 [l0, l1, l2, l3, l4, l5] s h else if x0 = 4 then am_E P 100 136 [l0, l1, l2, l3, l4, l5] s h else if x0 = 5 then am_E P 100 143 [l0, l1, l2, l3, l4, l5] s h else if x0 = 6 then am_E P 100 150 [l0, l1, l2, l3, l4, l5] s h else am_E P 100 197 [l0, l1, l2, l3, l4, l5] s h) ∧
  (∀ (P : Nat × Nat) (l1 : Option Value) (l2 : Option Value) (l3 : Option Value) (l4 : Option Value) (l5 : Option Value) (a0 : Nat) (s : List Value) (h : am_H), am_E P 100 52 [some (.ref a0), l1, l2, l3, l4, l5] s h = am_E P 100 53 [some (.ref a0), l1, l2, l3, l4, l5] (.ref a0 :: s) h) ∧
  (∀ (P : Nat × Nat) (l1 : Option Value) (l2 : Option Value) (l3 : Option Value) (l4 : Option Value) (l5 : Option Value) (s : List Value) (h : am_H), am_E P 100 52 [some .null, l1, l2, l3, l4, l5] s h = am_E P 100 53 [some .null, l1, l2, l3, l4, l5] (.null :: s) h) ∧
  (∀ (P : Nat × Nat) (l0 : Option Value) (l1 : Option Value) (l2 : Option Value) (l3 : Option Value) (l4 : Option Value) (l5 : Option Value) (a0 : Nat) (s : List Value) (h : am_H), am_E P 100 53 [l0, l1, l2, l3, l4, l5] (.ref a0 :: s) h = (am_g1 h a0 9 1).bind (fun v => am_E P 100 56 [l0, l1, l2, l3, l4, l5] (v :: s) h)) ∧
  (∀ (P : Nat × Nat) (l0 : Option Value) (l2 : Option Value) (l3 : Option Value) (l4 : Option Value) (l5 : Option Value) (x0 : Int32) (s : List Value) (h : am_H), am_E P 100 56 [l0, some (.int x0), l2, l3, l4, l5] s h = am_E P 100 57 [l0, some (.int x0), l2, l3, l4, l5] (.int x0 :: s) h) ∧
  (∀ (P : Nat × Nat) (l0 : Option Value) (l1 : Option Value) (l2 : Option Value) (l3 : Option Value) (l4 : Option Value) (l5 : Option Value) (x0 : Int32) (a0 : Nat) (s : List Value) (h : am_H), am_E P 100 57 [l0, l1, l2, l3, l4, l5] (.int x0 :: .ref a0 :: s) h = (am_iald h a0 x0).bind (fun v => am_E P 100 58 [l0, l1, l2, l3, l4, l5] (.int v :: s) h)) ∧
  (∀ (P : Nat × Nat) (l0 : Option Value) (l1 : Option Value) (l2 : Option Value) (l3 : Option Value) (l4 : Option Value) (l5 : Option Value) (x0 : Int32) (h : am_H), am_E P 100 58 [l0, l1, l2, l3, l4, l5] [.int x0] h = some (some (.int x0), h)) ∧
  (∀ (P : Nat × Nat) (l1 : Option Value) (l2 : Option Value) (l3 : Option Value) (l4 : Option Value) (l5 : Option Value) (a0 : Nat) (s : List Value) (h : am_H), am_E P 100 59 [some (.ref a0), l1, l2, l3, l4, l5] s h = am_E P 100 60 [some (.ref a0), l1, l2, l3, l4, l5] (.ref a0 :: s) h) ∧
  (∀ (P : Nat × Nat) (l1 : Option Value) (l2 : Option Value) (l3 : Option Value) (l4 : Option Value) (l5 : Option Value) (s : List Value) (h : am_H), am_E P 100 59 [some .null, l1, l2, l3, l4, l5] s h = am_E P 100 60 [some .null, l1, l2, l3, l4, l5] (.null :: s) h) ∧
  (∀ (P : Nat × Nat) (l0 : Option Value) (l1 : Option Value) (l2 : Option Value) (l3 : Option Value) (l4 : Option Value) (l5 : Option Value) (a0 : Nat) (s : List Value) (h : am_H), am_E P 100 60 [l0, l1, l2, l3, l4, l5] (.ref a0 :: s) h = (am_g1 h a0 9 2).bind (fun v => am_E P 100 63 [l0, l1, l2, l3, l4, l5] (v :: s) h)) ∧
  (∀ (P : Nat × Nat) (l0 : Option Value) (l2 : Option Value) (l3 : Option Value) (l4 : Option Value) (l5 : Option Value) (x0 : Int32) (s : List Value) (h : am_H), am_E P 100 63 [l0, some (.int x0), l2, l3, l4, l5] s h = am_E P 100 64 [l0, some (.int x0), l2, l3, l4, l5] (.int x0 :: s) h) ∧
  (∀ (P : Nat × Nat) (l0 : Option Value) (l1 : Option Value) (l2 : Option Value) (l3 : Option Value) (l4 : Option Value) (l5 : Option Value) (x0 : Int32) (a0 : Nat) (s : List Value) (h : am_H), am_E P 100 64 [l0, l1, l2, l3, l4, l5] (.int x0 :: .ref a0 :: s) h = (am_iald h a0 x0).bind (fun v => am_E P 100 65 [l0, l1, l2, l3, l4, l5] (.int v :: s) h)) ∧
  (∀ (P : Nat × Nat) (l0 : Option Value) (l1 : Option Value) (l2 : Option Value) (l3 : Option Value) (l4 : Option Value) (l5 : Option Value) (x0 : Int32) (h : am_H), am_E P 100 65 [l0, l1, l2, l3, l4, l5] [.int x0] h = some (some (.int x0), h)) ∧
  (∀ (P : Nat × Nat) (l1 : Option Value) (l2 : Option Value) (l3 : Option Value) (l4 : Option Value) (l5 : Option Value) (a0 : Nat) (s : List Value) (h : am_H), am_E P 100 66 [some (.ref a0), l1, l2, l3, l4, l5] s h = am_E P 100 67 [some (.ref a0), l1, l2, l3, l4, l5] (.ref a0 :: s) h) ∧
  (∀ (P : Nat × Nat) (l1 : Option Value) (l2 : Option Value) (l3 : Option Value) (l4 : Option Value) (l5 : Option Value) (s : List Value) (h : am_H), am_E P 100 66 [some .null, l1, l2, l3, l4, l5] s h = am_E P 100 67 [some .null, l1, l2, l3, l4, l5] (.null :: s) h) ∧
  (∀ (P : Nat × Nat) (l0 : Option Value) (l1 : Option Value) (l2 : Option Value) (l3 : Option Value) (l4 : Option Value) (l5 : Option Value) (a0 : Nat) (s : List Value) (h : am_H), am_E P 100 67 [l0, l1, l2, l3, l4, l5] (.ref a0 :: s) h = (am_g1 h a0 9 5).bind (fun v => am_E P 100 70 [l0, l1, l2, l3, l4, l5] (v :: s) h)) ∧
  (∀ (P : Nat × Nat) (l0 : Option Value) (l2 : Option Value) (l3 : Option Value) (l4 : Option Value) (l5 : Option Value) (x0 : Int32) (s : List Value) (h : am_H), am_E P 100 70 [l0, some (.int x0), l2, l3, l4, l5] s h = am_E P 100 71 [l0, some (.int x0), l2, l3, l4, l5] (.int x0 :: s) h) ∧
  (∀ (P : Nat × Nat) (l0 : Option Value) (l1 : Option Value) (l2 : Option Value) (l3 : Option Value) (l4 : Option Value) (l5 : Option Value) (x0 : Int32) (a0 : Nat) (s : List Value) (h : am_H), am_E P 100 71 [l0, l1, l2, l3, l4, l5] (.int x0 :: .ref a0 :: s) h = (am_iald h a0 x0).bind (fun v => am_E P 100 72 [l0, l1, l2, l3, l4, l5] (.int v :: s) h)) ∧
  (∀ (P : Nat × Nat) (l0 : Option Value) (l1 : Option Value) (l2 : Option Value) (l3 : Option Value) (l4 : Option Value) (l5 : Option Value) (x0 : Int32) (h : am_H), am_E P 100 72 [l0, l1, l2, l3, l4, l5] [.int x0] h = some (some (.int x0), h)) ∧
  (∀ (P : Nat × Nat) (l0 : Option Value) (l1 : Option Value) (l2 : Option Value) (l3 : Option Value) (l4 : Option Value) (l5 : Option Value) (s : List Value) (h : am_H), am_E P 100 73 [l0, l1, l2, l3, l4, l5] s h = am_E P 100 74 [l0, l1, l2, l3, l4, l5] (.int 0 :: s) h) ∧
  (∀ (P : Nat × Nat) (l0 : Option Value) (l1 : Option Value) (l2 : Option Value) (l3 : Option Value) (l4 : Option Value) (l5 : Option Value) (x0 : Int32) (s : List Value) (h : am_H), am_E P 100 74 [l0, l1, l2, l3, l4, l5] (.int x0 :: s) h = am_E P 100 75 [l0, l1, l2, some (.int x0), l4, l5] s h) ∧
  (∀ (P : Nat × Nat) (l0 : Option Value) (l1 : Option Value) (l2 : Option Value) (l3 : Option Value) (l4 : Option Value) (l5 : Option Value) (s : List Value) (h : am_H), am_E P 100 75 [l0, l1, l2, l3, l4, l5] s h = am_E P 100 76 [l0, l1, l2, l3, l4, l5] (.int 0 :: s) h) ∧
  (∀ (P : Nat × Nat) (l0 : Option Value) (l1 : Option Value) (l2 : Option Value) (l3 : Option Value) (l4 : Option Value) (l5 : Option Value) (x0 : Int32) (s : List Value) (h : am_H), am_E P 100 76 [l0, l1, l2, l3, l4, l5] (.int x0 :: s) h = am_E P 100 78 [l0, l1, l2, l3, some (.int x0), l5] s h) ∧
  (∀ (P : Nat × Nat) (l0 : Option Value) (l1 : Option Value) (l2 : Option Value) (l3 : Option Value) (l4 : Option Value) (l5 : Option Value) (s : List Value) (h : am_H), am_E P 100 80 [l0, l1, l2, l3, l4, l5] s h = am_E P 100 82 [l0, l1, l2, l3, l4, l5] (.int 10 :: s) h) ∧
  (∀ (P : Nat × Nat) (l0 : Option Value) (l1 : Option Value) (l2 : Option Value) (l3 : Option Value) (l4 : Option Value) (l5 : Option Value) (x0 : Int32) (x1 : Int32) (s : List Value) (h : am_H), am_E P 100 82 [l0, l1, l2, l3, l4, l5] (.int x1 :: .int x0 :: s) h = if x1 ≤ x0 then am_E P 100 116 [l0, l1, l2, l3, l4, l5] s h else am_E P 100 85 [l0, l1, l2, l3, l4, l5] s h) ∧
  (∀ (P : Nat × Nat) (l0 : Option Value) (l1 : Option Value) (l2 : Option Value) (l4 : Option Value) (l5 : Option Value) (x0 : Int32) (s : List Value) (h : am_H), am_E P 100 85 [l0, l1, l2, some (.int x0), l4, l5] s h = am_E P 100 86 [l0, l1, l2, some (.int x0), l4, l5] (.int x0 :: s) h) ∧
  (∀ (P : Nat × Nat) (l1 : Option Value) (l2 : Option Value) (l3 : Option Value) (l4 : Option Value) (l5 : Option Value) (a0 : Nat) (s : List Value) (h : am_H), am_E P 100 86 [some (.ref a0), l1, l2, l3, l4, l5] s h = am_E P 100 87 [some (.ref a0), l1, l2, l3, l4, l5] (.ref a0 :: s) h) ∧
  (∀ (P : Nat × Nat) (l1 : Option Value) (l2 : Option Value) (l3 : Option Value) (l4 : Option Value) (l5 : Option Value) (s : List Value) (h : am_H), am_E P 100 86 [some .null, l1, l2, l3, l4, l5] s h = am_E P 100 87 [some .null, l1, l2, l3, l4, l5] (.null :: s) h) ∧
  (∀ (P : Nat × Nat) (l0 : Option Value) (l1 : Option Value) (l2 : Option Value) (l3 : Option Value) (l4 : Option Value) (l5 : Option Value) (a0 : Nat) (s : List Value) (h : am_H), am_E P 100 87 [l0, l1, l2, l3, l4, l5] (.ref a0 :: s) h = (am_g1 h a0 9 19).bind (fun v => am_E P 100 90 [l0, l1, l2, l3, l4, l5] (v :: s) h)) ∧
  (∀ (P : Nat × Nat) (l0 : Option Value) (l1 : Option Value) (l2 : Option Value) (l3 : Option Value) (l4 : Option Value) (l5 : Option Value) (s : List Value) (h : am_H), am_E P 100 90 [l0, l1, l2, l3, l4, l5] s h = am_E P 100 92 [l0, l1, l2, l3, l4, l5] (.int 10 :: s) h) ∧
  (∀ (P : Nat × Nat) (l0 : Option Value) (l2 : Option Value) (l3 : Option Value) (l4 : Option Value) (l5 : Option Value) (x0 : Int32) (s : List Value) (h : am_H), am_E P 100 92 [l0, some (.int x0), l2, l3, l4, l5] s h = am_E P 100 93 [l0, some (.int x0), l2, l3, l4, l5] (.int x0 :: s) h) ∧
  (∀ (P : Nat × Nat) (l0 : Option Value) (l1 : Option Value) (l2 : Option Value) (l3 : Option Value) (l4 : Option Value) (l5 : Option Value) (x0 : Int32) (x1 : Int32) (s : List Value) (h : am_H), am_E P 100 93 [l0, l1, l2, l3, l4, l5] (.int x1 :: .int x0 :: s) h = am_E P 100 94 [l0, l1, l2, l3, l4, l5] (.int (x0 * x1) :: s) h) ∧
  (∀ (P : Nat × Nat) (l0 : Option Value) (l1 : Option Value) (l2 : Option Value) (l3 : Option Value) (l5 : Option Value) (x0 : Int32) (s : List Value) (h : am_H), am_E P 100 94 [l0, l1, l2, l3, some (.int x0), l5] s h = am_E P 100 96 [l0, l1, l2, l3, some (.int x0), l5] (.int x0 :: s) h) ∧
  (∀ (P : Nat × Nat) (l0 : Option Value) (l1 : Option Value) (l2 : Option Value) (l3 : Option Value) (l4 : Option Value) (l5 : Option Value) (x0 : Int32) (x1 : Int32) (s : List Value) (h : am_H), am_E P 100 96 [l0, l1, l2, l3, l4, l5] (.int x1 :: .int x0 :: s) h = am_E P 100 97 [l0, l1, l2, l3, l4, l5] (.int (x0 + x1) :: s) h) ∧
  (∀ (P : Nat × Nat) (l0 : Option Value) (l1 : Option Value) (l2 : Option Value) (l3 : Option Value) (l4 : Option Value) (l5 : Option Value) (x0 : Int32) (a0 : Nat) (s : List Value) (h : am_H), am_E P 100 97 [l0, l1, l2, l3, l4, l5] (.int x0 :: .ref a0 :: s) h = (am_iald h a0 x0).bind (fun v => am_E P 100 98 [l0, l1, l2, l3, l4, l5] (.int v :: s) h)) ∧
  (∀ (P : Nat × Nat) (l0 : Option Value) (l1 : Option Value) (l2 : Option Value) (l3 : Option Value) (l4 : Option Value) (l5 : Option Value) (s : List Value) (h : am_H), am_E P 100 98 [l0, l1, l2, l3, l4, l5] s h = am_E P 100 100 [l0, l1, l2, l3, l4, l5] (.int (-6) :: s) h) ∧
  (∀ (P : Nat × Nat) (l0 : Option Value) (l1 : Option Value) (l2 : Option Value) (l3 : Option Value) (l4 : Option Value) (l5 : Option Value) (x0 : Int32) (x1 : Int32) (s : List Value) (h : am_H), am_E P 100 100 [l0, l1, l2, l3, l4, l5] (.int x1 :: .int x0 :: s) h = if x0 = x1 then am_E P 100 107 [l0, l1, l2, l3, l4, l5] s h else am_E P 100 103 [l0, l1, l2, l3, l4, l5] s h) ∧
  (∀ (P : Nat × Nat) (l0 : Option Value) (l1 : Option Value) (l2 : Option Value) (l3 : Option Value) (l4 : Option Value) (l5 : Option Value) (s : List Value) (h : am_H), am_E P 100 103 [l0, l1, l2, l3, l4, l5] s h = am_E P 100 104 [l0, l1, l2, l3, l4, l5] (.int 1 :: s) h) ∧
  (∀ (P : Nat × Nat) (l0 : Option Value) (l1 : Option Value) (l2 : Option Value) (l3 : Option Value) (l4 : Option Value) (l5 : Option Value) (s : List Value) (h : am_H), am_E P 100 104 [l0, l1, l2, l3, l4, l5] s h = am_E P 100 108 [l0, l1, l2, l3, l4, l5] s h) ∧
  (∀ (P : Nat × Nat) (l0 : Option Value) (l1 : Option Value) (l2 : Option Value) (l3 : Option Value) (l4 : Option Value) (l5 : Option Value) (s : List Value) (h : am_H), am_E P 100 107 [l0, l1, l2, l3, l4, l5] s h = am_E P 100 108 [l0, l1, l2, l3, l4, l5] (.int 0 :: s) h) ∧
  (∀ (P : Nat × Nat) (l0 : Option Value) (l1 : Option Value) (l2 : Option Value) (l3 : Option Value) (l4 : Option Value) (l5 : Option Value) (x0 : Int32) (x1 : Int32) (s : List Value) (h : am_H), am_E P 100 108 [l0, l1, l2, l3, l4, l5] (.int x1 :: .int x0 :: s) h = am_E P 100 109 [l0, l1, l2, l3, l4, l5] (.int (x0 + x1) :: s) h) ∧
  (∀ (P : Nat × Nat) (l0 : Option Value) (l1 : Option Value) (l2 : Option Value) (l3 : Option Value) (l4 : Option Value) (l5 : Option Value) (x0 : Int32) (s : List Value) (h : am_H), am_E P 100 109 [l0, l1, l2, l3, l4, l5] (.int x0 :: s) h = am_E P 100 110 [l0, l1, l2, some (.int x0), l4, l5] s h) ∧
  (∀ (P : Nat × Nat) (l0 : Option Value) (l1 : Option Value) (l2 : Option Value) (l3 : Option Value) (l5 : Option Value) (x0 : Int32) (s : List Value) (h : am_H), am_E P 100 110 [l0, l1, l2, l3, some (.int x0), l5] s h = am_E P 100 113 [l0, l1, l2, l3, some (.int (x0 + 1)), l5] s h) ∧
  (∀ (P : Nat × Nat) (l0 : Option Value) (l1 : Option Value) (l2 : Option Value) (l3 : Option Value) (l4 : Option Value) (l5 : Option Value) (s : List Value) (h : am_H), am_E P 100 113 [l0, l1, l2, l3, l4, l5] s h = am_E P 100 78 [l0, l1, l2, l3, l4, l5] s h) ∧
  (∀ (P : Nat × Nat) (l1 : Option Value) (l2 : Option Value) (l3 : Option Value) (l4 : Option Value) (l5 : Option Value) (a0 : Nat) (s : List Value) (h : am_H), am_E P 100 116 [some (.ref a0), l1, l2, l3, l4, l5] s h = am_E P 100 117 [some (.ref a0), l1, l2, l3, l4, l5] (.ref a0 :: s) h) ∧
  (∀ (P : Nat × Nat) (l1 : Option Value) (l2 : Option Value) (l3 : Option Value) (l4 : Option Value) (l5 : Option Value) (s : List Value) (h : am_H), am_E P 100 116 [some .null, l1, l2, l3, l4, l5] s h = am_E P 100 117 [some .null, l1, l2, l3, l4, l5] (.null :: s) h) ∧
  (∀ (P : Nat × Nat) (l0 : Option Value) (l1 : Option Value) (l2 : Option Value) (l3 : Option Value) (l4 : Option Value) (l5 : Option Value) (a0 : Nat) (s : List Value) (h : am_H), am_E P 100 117 [l0, l1, l2, l3, l4, l5] (.ref a0 :: s) h = (am_g1 h a0 9 1).bind (fun v => am_E P 100 120 [l0, l1, l2, l3, l4, l5] (v :: s) h)) ∧
  (∀ (P : Nat × Nat) (l0 : Option Value) (l2 : Option Value) (l3 : Option Value) (l4 : Option Value) (l5 : Option Value) (x0 : Int32) (s : List Value) (h : am_H), am_E P 100 120 [l0, some (.int x0), l2, l3, l4, l5] s h = am_E P 100 121 [l0, some (.int x0), l2, l3, l4, l5] (.int x0 :: s) h) ∧
  (∀ (P : Nat × Nat) (l0 : Option Value) (l1 : Option Value) (l2 : Option Value) (l3 : Option Value) (l4 : Option Value) (l5 : Option Value) (x0 : Int32) (a0 : Nat) (s : List Value) (h : am_H), am_E P 100 121 [l0, l1, l2, l3, l4, l5] (.int x0 :: .ref a0 :: s) h = (am_iald h a0 x0).bind (fun v => am_E P 100 122 [l0, l1, l2, l3, l4, l5] (.int v :: s) h)) ∧
  (∀ (P : Nat × Nat) (l0 : Option Value) (l1 : Option Value) (l2 : Option Value) (l3 : Option Value) (l4 : Option Value) (l5 : Option Value) (x0 : Int32) (s : List Value) (h : am_H), am_E P 100 122 [l0, l1, l2, l3, l4, l5] (.int x0 :: s) h = if x0 = 0 then am_E P 100 125 [l0, l1, l2, l3, l4, l5] s h else am_E P 100 134 [l0, l1, l2, l3, l4, l5] s h) ∧
  (∀ (P : Nat × Nat) (l1 : Option Value) (l2 : Option Value) (l3 : Option Value) (l4 : Option Value) (l5 : Option Value) (a0 : Nat) (s : List Value) (h : am_H), am_E P 100 125 [some (.ref a0), l1, l2, l3, l4, l5] s h = am_E P 100 126 [some (.ref a0), l1, l2, l3, l4, l5] (.ref a0 :: s) h) ∧
  (∀ (P : Nat × Nat) (l1 : Option Value) (l2 : Option Value) (l3 : Option Value) (l4 : Option Value) (l5 : Option Value) (s : List Value) (h : am_H), am_E P 100 125 [some .null, l1, l2, l3, l4, l5] s h = am_E P 100 126 [some .null, l1, l2, l3, l4, l5] (.null :: s) h) ∧
  (∀ (P : Nat × Nat) (l0 : Option Value) (l1 : Option Value) (l2 : Option Value) (l3 : Option Value) (l4 : Option Value) (l5 : Option Value) (a0 : Nat) (s : List Value) (h : am_H), am_E P 100 126 [l0, l1, l2, l3, l4, l5] (.ref a0 :: s) h = (am_g1 h a0 9 14).bind (fun v => am_E P 100 129 [l0, l1, l2, l3, l4, l5] (v :: s) h)) ∧
  (∀ (P : Nat × Nat) (l0 : Option Value) (l2 : Option Value) (l3 : Option Value) (l4 : Option Value) (l5 : Option Value) (x0 : Int32) (s : List Value) (h : am_H), am_E P 100 129 [l0, some (.int x0), l2, l3, l4, l5] s h = am_E P 100 130 [l0, some (.int x0), l2, l3, l4, l5] (.int x0 :: s) h) ∧
  (∀ (P : Nat × Nat) (l0 : Option Value) (l1 : Option Value) (l2 : Option Value) (l3 : Option Value) (l4 : Option Value) (l5 : Option Value) (x0 : Int32) (a0 : Nat) (s : List Value) (h : am_H), am_E P 100 130 [l0, l1, l2, l3, l4, l5] (.int x0 :: .ref a0 :: s) h = (am_iald h a0 x0).bind (fun v => am_E P 100 131 [l0, l1, l2, l3, l4, l5] (.int v :: s) h)) ∧
  (∀ (P : Nat × Nat) (l0 : Option Value) (l1 : Option Value) (l2 : Option Value) (l3 : Option Value) (l4 : Option Value) (l5 : Option Value) (s : List Value) (h : am_H), am_E P 100 131 [l0, l1, l2, l3, l4, l5] s h = am_E P 100 135 [l0, l1, l2, l3, l4, l5] s h) ∧
  (∀ (P : Nat × Nat) (l0 : Option Value) (l1 : Option Value) (l2 : Option Value) (l4 : Option Value) (l5 : Option Value) (x0 : Int32) (s : List Value) (h : am_H), am_E P 100 134 [l0, l1, l2, some (.int x0), l4, l5] s h = am_E P 100 135 [l0, l1, l2, some (.int x0), l4, l5] (.int x0 :: s) h) ∧
  (∀ (P : Nat × Nat) (l0 : Option Value) (l1 : Option Value) (l2 : Option Value) (l3 : Option Value) (l4 : Option Value) (l5 : Option Value) (x0 : Int32) (h : am_H), am_E P 100 135 [l0, l1, l2, l3, l4, l5] [.int x0] h = some (some (.int x0), h)) ∧
  (∀ (P : Nat × Nat) (l1 : Option Value) (l2 : Option Value) (l3 : Option Value) (l4 : Option Value) (l5 : Option Value) (a0 : Nat) (s : List Value) (h : am_H), am_E P 100 136 [some (.ref a0), l1, l2, l3, l4, l5] s h = am_E P 100 137 [some (.ref a0), l1, l2, l3, l4, l5] (.ref a0 :: s) h) ∧
  (∀ (P : Nat × Nat) (l1 : Option Value) (l2 : Option Value) (l3 : Option Value) (l4 : Option Value) (l5 : Option Value) (s : List Value) (h : am_H), am_E P 100 136 [some .null, l1, l2, l3, l4, l5] s h = am_E P 100 137 [some .null, l1, l2, l3, l4, l5] (.null :: s) h) ∧
  (∀ (P : Nat × Nat) (l0 : Option Value) (l1 : Option Value) (l2 : Option Value) (l3 : Option Value) (l4 : Option Value) (l5 : Option Value) (a0 : Nat) (s : List Value) (h : am_H), am_E P 100 137 [l0, l1, l2, l3, l4, l5] (.ref a0 :: s) h = (am_g1 h a0 9 6).bind (fun v => am_E P 100 140 [l0, l1, l2, l3, l4, l5] (v :: s) h)) ∧
  (∀ (P : Nat × Nat) (l0 : Option Value) (l2 : Option Value) (l3 : Option Value) (l4 : Option Value) (l5 : Option Value) (x0 : Int32) (s : List Value) (h : am_H), am_E P 100 140 [l0, some (.int x0), l2, l3, l4, l5] s h = am_E P 100 141 [l0, some (.int x0), l2, l3, l4, l5] (.int x0 :: s) h) ∧
  (∀ (P : Nat × Nat) (l0 : Option Value) (l1 : Option Value) (l2 : Option Value) (l3 : Option Value) (l4 : Option Value) (l5 : Option Value) (x0 : Int32) (a0 : Nat) (s : List Value) (h : am_H), am_E P 100 141 [l0, l1, l2, l3, l4, l5] (.int x0 :: .ref a0 :: s) h = (am_iald h a0 x0).bind (fun v => am_E P 100 142 [l0, l1, l2, l3, l4, l5] (.int v :: s) h)) ∧
  (∀ (P : Nat × Nat) (l0 : Option Value) (l1 : Option Value) (l2 : Option Value) (l3 : Option Value) (l4 : Option Value) (l5 : Option Value) (x0 : Int32) (h : am_H), am_E P 100 142 [l0, l1, l2, l3, l4, l5] [.int x0] h = some (some (.int x0), h)) ∧
  (∀ (P : Nat × Nat) (l1 : Option Value) (l2 : Option Value) (l3 : Option Value) (l4 : Option Value) (l5 : Option Value) (a0 : Nat) (s : List Value) (h : am_H), am_E P 100 143 [some (.ref a0), l1, l2, l3, l4, l5] s h = am_E P 100 144 [some (.ref a0), l1, l2, l3, l4, l5] (.ref a0 :: s) h) ∧
  (∀ (P : Nat × Nat) (l1 : Option Value) (l2 : Option Value) (l3 : Option Value) (l4 : Option Value) (l5 : Option Value) (s : List Value) (h : am_H), am_E P 100 143 [some .null, l1, l2, l3, l4, l5] s h = am_E P 100 144 [some .null, l1, l2, l3, l4, l5] (.null :: s) h) ∧
  (∀ (P : Nat × Nat) (l0 : Option Value) (l1 : Option Value) (l2 : Option Value) (l3 : Option Value) (l4 : Option Value) (l5 : Option Value) (a0 : Nat) (s : List Value) (h : am_H), am_E P 100 144 [l0, l1, l2, l3, l4, l5] (.ref a0 :: s) h = (am_g1 h a0 9 7).bind (fun v => am_E P 100 147 [l0, l1, l2, l3, l4, l5] (v :: s) h)) ∧
  (∀ (P : Nat × Nat) (l0 : Option Value) (l2 : Option Value) (l3 : Option Value) (l4 : Option Value) (l5 : Option Value) (x0 : Int32) (s : List Value) (h : am_H), am_E P 100 147 [l0, some (.int x0), l2, l3, l4, l5] s h = am_E P 100 148 [l0, some (.int x0), l2, l3, l4, l5] (.int x0 :: s) h) ∧
  (∀ (P : Nat × Nat) (l0 : Option Value) (l1 : Option Value) (l2 : Option Value) (l3 : Option Value) (l4 : Option Value) (l5 : Option Value) (x0 : Int32) (a0 : Nat) (s : List Value) (h : am_H), am_E P 100 148 [l0, l1, l2, l3, l4, l5] (.int x0 :: .ref a0 :: s) h = (am_iald h a0 x0).bind (fun v => am_E P 100 149 [l0, l1, l2, l3, l4, l5] (.int v :: s) h)) ∧
  (∀ (P : Nat × Nat) (l0 : Option Value) (l1 : Option Value) (l2 : Option Value) (l3 : Option Value) (l4 : Option Value) (l5 : Option Value) (x0 : Int32) (h : am_H), am_E P 100 149 [l0, l1, l2, l3, l4, l5] [.int x0] h = some (some (.int x0), h)) ∧
  (∀ (P : Nat × Nat) (l0 : Option Value) (l1 : Option Value) (l2 : Option Value) (l3 : Option Value) (l4 : Option Value) (l5 : Option Value) (s : List Value) (h : am_H), am_E P 100 150 [l0, l1, l2, l3, l4, l5] s h = am_E P 100 151 [l0, l1, l2, l3, l4, l5] (.int 0 :: s) h) ∧
  (∀ (P : Nat × Nat) (l0 : Option Value) (l1 : Option Value) (l2 : Option Value) (l3 : Option Value) (l4 : Option Value) (l5 : Option Value) (x0 : Int32) (s : List Value) (h : am_H), am_E P 100 151 [l0, l1, l2, l3, l4, l5] (.int x0 :: s) h = am_E P 100 153 [l0, l1, l2, l3, some (.int x0), l5] s h) ∧
  (∀ (P : Nat × Nat) (l0 : Option Value) (l1 : Option Value) (l2 : Option Value) (l3 : Option Value) (l4 : Option Value) (l5 : Option Value) (s : List Value) (h : am_H), am_E P 100 153 [l0, l1, l2, l3, l4, l5] s h = am_E P 100 154 [l0, l1, l2, l3, l4, l5] (.int 0 :: s) h) ∧
  (∀ (P : Nat × Nat) (l0 : Option Value) (l1 : Option Value) (l2 : Option Value) (l3 : Option Value) (l4 : Option Value) (l5 : Option Value) (x0 : Int32) (s : List Value) (h : am_H), am_E P 100 154 [l0, l1, l2, l3, l4, l5] (.int x0 :: s) h = am_E P 100 156 [l0, l1, l2, l3, l4, some (.int x0)] s h) ∧
  (∀ (P : Nat × Nat) (l1 : Option Value) (l2 : Option Value) (l3 : Option Value) (l4 : Option Value) (l5 : Option Value) (a0 : Nat) (s : List Value) (h : am_H), am_E P 100 158 [some (.ref a0), l1, l2, l3, l4, l5] s h = am_E P 100 159 [some (.ref a0), l1, l2, l3, l4, l5] (.ref a0 :: s) h) ∧
  (∀ (P : Nat × Nat) (l1 : Option Value) (l2 : Option Value) (l3 : Option Value) (l4 : Option Value) (l5 : Option Value) (s : List Value) (h : am_H), am_E P 100 158 [some .null, l1, l2, l3, l4, l5] s h = am_E P 100 159 [some .null, l1, l2, l3, l4, l5] (.null :: s) h) ∧
  (∀ (P : Nat × Nat) (l0 : Option Value) (l1 : Option Value) (l2 : Option Value) (l3 : Option Value) (l4 : Option Value) (l5 : Option Value) (a0 : Nat) (s : List Value) (h : am_H), am_E P 100 159 [l0, l1, l2, l3, l4, l5] (.ref a0 :: s) h = (am_g1 h a0 9 5).bind (fun v => am_E P 100 162 [l0, l1, l2, l3, l4, l5] (v :: s) h)) ∧
  (∀ (P : Nat × Nat) (l0 : Option Value) (l2 : Option Value) (l3 : Option Value) (l4 : Option Value) (l5 : Option Value) (x0 : Int32) (s : List Value) (h : am_H), am_E P 100 162 [l0, some (.int x0), l2, l3, l4, l5] s h = am_E P 100 163 [l0, some (.int x0), l2, l3, l4, l5] (.int x0 :: s) h) ∧
  (∀ (P : Nat × Nat) (l0 : Option Value) (l1 : Option Value) (l2 : Option Value) (l3 : Option Value) (l4 : Option Value) (l5 : Option Value) (x0 : Int32) (a0 : Nat) (s : List Value) (h : am_H), am_E P 100 163 [l0, l1, l2, l3, l4, l5] (.int x0 :: .ref a0 :: s) h = (am_iald h a0 x0).bind (fun v => am_E P 100 164 [l0, l1, l2, l3, l4, l5] (.int v :: s) h)) ∧
  (∀ (P : Nat × Nat) (l0 : Option Value) (l1 : Option Value) (l2 : Option Value) (l3 : Option Value) (l4 : Option Value) (l5 : Option Value) (x0 : Int32) (x1 : Int32) (s : List Value) (h : am_H), am_E P 100 164 [l0, l1, l2, l3, l4, l5] (.int x1 :: .int x0 :: s) h = if x1 ≤ x0 then am_E P 100 194 [l0, l1, l2, l3, l4, l5] s h else am_E P 100 167 [l0, l1, l2, l3, l4, l5] s h) ∧
  (∀ (P : Nat × Nat) (l0 : Option Value) (l1 : Option Value) (l2 : Option Value) (l3 : Option Value) (l5 : Option Value) (x0 : Int32) (s : List Value) (h : am_H), am_E P 100 167 [l0, l1, l2, l3, some (.int x0), l5] s h = am_E P 100 169 [l0, l1, l2, l3, some (.int x0), l5] (.int x0 :: s) h) ∧
  (∀ (P : Nat × Nat) (l1 : Option Value) (l2 : Option Value) (l3 : Option Value) (l4 : Option Value) (l5 : Option Value) (a0 : Nat) (s : List Value) (h : am_H), am_E P 100 169 [some (.ref a0), l1, l2, l3, l4, l5] s h = am_E P 100 170 [some (.ref a0), l1, l2, l3, l4, l5] (.ref a0 :: s) h) ∧
  (∀ (P : Nat × Nat) (l1 : Option Value) (l2 : Option Value) (l3 : Option Value) (l4 : Option Value) (l5 : Option Value) (s : List Value) (h : am_H), am_E P 100 169 [some .null, l1, l2, l3, l4, l5] s h = am_E P 100 170 [some .null, l1, l2, l3, l4, l5] (.null :: s) h) ∧
  (∀ (P : Nat × Nat) (l0 : Option Value) (l2 : Option Value) (l3 : Option Value) (l4 : Option Value) (l5 : Option Value) (x0 : Int32) (s : List Value) (h : am_H), am_E P 100 170 [l0, some (.int x0), l2, l3, l4, l5] s h = am_E P 100 171 [l0, some (.int x0), l2, l3, l4, l5] (.int x0 :: s) h) ∧
  (∀ (P : Nat × Nat) (l0 : Option Value) (l1 : Option Value) (l2 : Option Value) (l3 : Option Value) (l4 : Option Value) (x0 : Int32) (s : List Value) (h : am_H), am_E P 100 171 [l0, l1, l2, l3, l4, some (.int x0)] s h = am_E P 100 173 [l0, l1, l2, l3, l4, some (.int x0)] (.int x0 :: s) h) ∧
  (∀ (P : Nat × Nat) (l0 : Option Value) (l1 : Option Value) (l2 : Option Value) (l3 : Option Value) (l4 : Option Value) (l5 : Option Value) (a0 : Nat) (x0 : Int32) (x1 : Int32) (v0 : Value) (h : am_H), am_E P 100 173 [l0, l1, l2, l3, l4, l5] [.int x1, .int x0, .ref a0, v0] h = if am_cls h a0 = some 9 then (am_E P 80 0 [some (.ref a0), some (.int x0), some (.int x1), none, none] [] h).bind (fun q => am_E P 100 176 [l0, l1, l2, l3, l4, l5] (q.1.toList ++ [v0]) q.2) else none) ∧
  (∀ (P : Nat × Nat) (l0 : Option Value) (l1 : Option Value) (l2 : Option Value) (l3 : Option Value) (l4 : Option Value) (l5 : Option Value) (s : List Value) (h : am_H), am_E P 100 176 [l0, l1, l2, l3, l4, l5] s h = am_E P 100 177 [l0, l1, l2, l3, l4, l5] (.int 1 :: s) h) ∧
  (∀ (P : Nat × Nat) (l0 : Option Value) (l1 : Option Value) (l2 : Option Value) (l3 : Option Value) (l4 : Option Value) (l5 : Option Value) (x0 : Int32) (x1 : Int32) (s : List Value) (h : am_H), am_E P 100 177 [l0, l1, l2, l3, l4, l5] (.int x1 :: .int x0 :: s) h = if x0 = x1 then am_E P 100 180 [l0, l1, l2, l3, l4, l5] s h else am_E P 100 184 [l0, l1, l2, l3, l4, l5] s h) ∧
  (∀ (P : Nat × Nat) (l0 : Option Value) (l1 : Option Value) (l2 : Option Value) (l3 : Option Value) (l4 : Option Value) (l5 : Option Value) (s : List Value) (h : am_H), am_E P 100 180 [l0, l1, l2, l3, l4, l5] s h = am_E P 100 181 [l0, l1, l2, l3, l4, l5] (.int 1 :: s) h) ∧
  (∀ (P : Nat × Nat) (l0 : Option Value) (l1 : Option Value) (l2 : Option Value) (l3 : Option Value) (l4 : Option Value) (l5 : Option Value) (s : List Value) (h : am_H), am_E P 100 181 [l0, l1, l2, l3, l4, l5] s h = am_E P 100 185 [l0, l1, l2, l3, l4, l5] s h) ∧
  (∀ (P : Nat × Nat) (l0 : Option Value) (l1 : Option Value) (l2 : Option Value) (l3 : Option Value) (l4 : Option Value) (l5 : Option Value) (s : List Value) (h : am_H), am_E P 100 184 [l0, l1, l2, l3, l4, l5] s h = am_E P 100 185 [l0, l1, l2, l3, l4, l5] (.int 0 :: s) h) ∧
  (∀ (P : Nat × Nat) (l0 : Option Value) (l1 : Option Value) (l2 : Option Value) (l3 : Option Value) (l4 : Option Value) (l5 : Option Value) (x0 : Int32) (x1 : Int32) (s : List Value) (h : am_H), am_E P 100 185 [l0, l1, l2, l3, l4, l5] (.int x1 :: .int x0 :: s) h = am_E P 100 186 [l0, l1, l2, l3, l4, l5] (.int (x0 + x1) :: s) h) ∧
  (∀ (P : Nat × Nat) (l0 : Option Value) (l1 : Option Value) (l2 : Option Value) (l3 : Option Value) (l4 : Option Value) (l5 : Option Value) (x0 : Int32) (s : List Value) (h : am_H), am_E P 100 186 [l0, l1, l2, l3, l4, l5] (.int x0 :: s) h = am_E P 100 188 [l0, l1, l2, l3, some (.int x0), l5] s h) ∧
  (∀ (P : Nat × Nat) (l0 : Option Value) (l1 : Option Value) (l2 : Option Value) (l3 : Option Value) (l4 : Option Value) (x0 : Int32) (s : List Value) (h : am_H), am_E P 100 188 [l0, l1, l2, l3, l4, some (.int x0)] s h = am_E P 100 191 [l0, l1, l2, l3, l4, some (.int (x0 + 1))] s h) ∧
  (∀ (P : Nat × Nat) (l0 : Option Value) (l1 : Option Value) (l2 : Option Value) (l3 : Option Value) (l4 : Option Value) (l5 : Option Value) (s : List Value) (h : am_H), am_E P 100 191 [l0, l1, l2, l3, l4, l5] s h = am_E P 100 156 [l0, l1, l2, l3, l4, l5] s h) ∧
  (∀ (P : Nat × Nat) (l0 : Option Value) (l1 : Option Value) (l2 : Option Value) (l3 : Option Value) (l5 : Option Value) (x0 : Int32) (s : List Value) (h : am_H), am_E P 100 194 [l0, l1, l2, l3, some (.int x0), l5] s h = am_E P 100 196 [l0, l1, l2, l3, some (.int x0), l5] (.int x0 :: s) h) ∧
  (∀ (P : Nat × Nat) (l0 : Option Value) (l1 : Option Value) (l2 : Option Value) (l3 : Option Value) (l4 : Option Value) (l5 : Option Value) (x0 : Int32) (h : am_H), am_E P 100 196 [l0, l1, l2, l3, l4, l5] [.int x0] h = some (some (.int x0), h)) ∧
  (∀ (P : Nat × Nat) (l0 : Option Value) (l1 : Option Value) (l2 : Option Value) (l3 : Option Value) (l4 : Option Value) (l5 : Option Value) (s : List Value) (h : am_H), am_E P 100 197 [l0, l1, l2, l3, l4, l5] s h = am_E P 100 199 [l0, l1, l2, l3, l4, l5] (.int (-2) :: s) h) ∧
  (∀ (P : Nat × Nat) (l0 : Option Value) (l1 : Option Value) (l2 : Option Value) (l3 : Option Value) (l4 : Option Value) (l5 : Option Value) (x0 : Int32) (h : am_H), am_E P 100 199 [l0, l1, l2, l3, l4, l5] [.int x0] h = some (some (.int x0), h)) :=
  ⟨fun _ _ _ _ _ _ _ _ _ => er_go rfl rfl,
  fun _ _ _ _ _ _ _ _ => er_go rfl rfl,
  fun _ _ _ _ _ _ _ _ _ => er_go rfl rfl,
  fun _ _ _ _ _ _ _ _ _ _ => er_callV rfl rfl rfl rfl,
  fun _ _ _ _ _ _ _ _ _ _ => er_if_eq rfl,
  fun _ _ _ _ _ _ _ _ _ => er_go rfl rfl,
  fun _ _ _ _ _ _ _ _ _ => er_ret rfl rfl,
  fun _ _ _ _ _ _ _ _ _ => er_go rfl rfl,
  fun _ _ _ _ _ _ _ _ _ _ => er_sw rfl rfl rfl,
  fun _ _ _ _ _ _ _ _ _ => er_go rfl rfl,
  fun _ _ _ _ _ _ _ _ => er_go rfl rfl,
  fun _ _ _ _ _ _ _ _ _ _ => er_get1 rfl,
  fun _ _ _ _ _ _ _ _ _ => er_go rfl rfl,
  fun _ _ _ _ _ _ _ _ _ _ _ => er_iald rfl,
  fun _ _ _ _ _ _ _ _ _ => er_ret rfl rfl,
  fun _ _ _ _ _ _ _ _ _ => er_go rfl rfl,
  fun _ _ _ _ _ _ _ _ => er_go rfl rfl,
  fun _ _ _ _ _ _ _ _ _ _ => er_get1 rfl,
  fun _ _ _ _ _ _ _ _ _ => er_go rfl rfl,
  fun _ _ _ _ _ _ _ _ _ _ _ => er_iald rfl,
  fun _ _ _ _ _ _ _ _ _ => er_ret rfl rfl,
  fun _ _ _ _ _ _ _ _ _ => er_go rfl rfl,
  fun _ _ _ _ _ _ _ _ => er_go rfl rfl,
  fun _ _ _ _ _ _ _ _ _ _ => er_get1 rfl,
  fun _ _ _ _ _ _ _ _ _ => er_go rfl rfl,
  fun _ _ _ _ _ _ _ _ _ _ _ => er_iald rfl,
  fun _ _ _ _ _ _ _ _ _ => er_ret rfl rfl,
  fun _ _ _ _ _ _ _ _ _ => er_go rfl rfl,
  fun _ _ _ _ _ _ _ _ _ _ => er_go rfl rfl,
  fun _ _ _ _ _ _ _ _ _ => er_go rfl rfl,
  fun _ _ _ _ _ _ _ _ _ _ => er_go rfl rfl,
  fun _ _ _ _ _ _ _ _ _ => er_go rfl rfl,
  fun _ _ _ _ _ _ _ _ _ _ _ => er_ic_ge rfl,
  fun _ _ _ _ _ _ _ _ _ => er_go rfl rfl,
  fun _ _ _ _ _ _ _ _ _ => er_go rfl rfl,
  fun _ _ _ _ _ _ _ _ => er_go rfl rfl,
  fun _ _ _ _ _ _ _ _ _ _ => er_get1 rfl,
  fun _ _ _ _ _ _ _ _ _ => er_go rfl rfl,
  fun _ _ _ _ _ _ _ _ _ => er_go rfl rfl,
  fun _ _ _ _ _ _ _ _ _ _ _ => er_go rfl rfl,
  fun _ _ _ _ _ _ _ _ _ => er_go rfl rfl,
  fun _ _ _ _ _ _ _ _ _ _ _ => er_go rfl rfl,
  fun _ _ _ _ _ _ _ _ _ _ _ => er_iald rfl,
  fun _ _ _ _ _ _ _ _ _ => er_go rfl rfl,
  fun _ _ _ _ _ _ _ _ _ _ _ => er_ic_eq rfl,
  fun _ _ _ _ _ _ _ _ _ => er_go rfl rfl,
  fun _ _ _ _ _ _ _ _ _ => er_go rfl rfl,
  fun _ _ _ _ _ _ _ _ _ => er_go rfl rfl,
  fun _ _ _ _ _ _ _ _ _ _ _ => er_go rfl rfl,
  fun _ _ _ _ _ _ _ _ _ _ => er_go rfl rfl,
  fun _ _ _ _ _ _ _ _ _ => er_go rfl rfl,
  fun _ _ _ _ _ _ _ _ _ => er_go rfl rfl,
  fun _ _ _ _ _ _ _ _ _ => er_go rfl rfl,
  fun _ _ _ _ _ _ _ _ => er_go rfl rfl,
  fun _ _ _ _ _ _ _ _ _ _ => er_get1 rfl,
  fun _ _ _ _ _ _ _ _ _ => er_go rfl rfl,
  fun _ _ _ _ _ _ _ _ _ _ _ => er_iald rfl,
  fun _ _ _ _ _ _ _ _ _ _ => er_if_ne rfl,
  fun _ _ _ _ _ _ _ _ _ => er_go rfl rfl,
  fun _ _ _ _ _ _ _ _ => er_go rfl rfl,
  fun _ _ _ _ _ _ _ _ _ _ => er_get1 rfl,
  fun _ _ _ _ _ _ _ _ _ => er_go rfl rfl,
  fun _ _ _ _ _ _ _ _ _ _ _ => er_iald rfl,
  fun _ _ _ _ _ _ _ _ _ => er_go rfl rfl,
  fun _ _ _ _ _ _ _ _ _ => er_go rfl rfl,
  fun _ _ _ _ _ _ _ _ _ => er_ret rfl rfl,
  fun _ _ _ _ _ _ _ _ _ => er_go rfl rfl,
  fun _ _ _ _ _ _ _ _ => er_go rfl rfl,
  fun _ _ _ _ _ _ _ _ _ _ => er_get1 rfl,
  fun _ _ _ _ _ _ _ _ _ => er_go rfl rfl,
  fun _ _ _ _ _ _ _ _ _ _ _ => er_iald rfl,
  fun _ _ _ _ _ _ _ _ _ => er_ret rfl rfl,
  fun _ _ _ _ _ _ _ _ _ => er_go rfl rfl,
  fun _ _ _ _ _ _ _ _ => er_go rfl rfl,
  fun _ _ _ _ _ _ _ _ _ _ => er_get1 rfl,
  fun _ _ _ _ _ _ _ _ _ => er_go rfl rfl,
  fun _ _ _ _ _ _ _ _ _ _ _ => er_iald rfl,
  fun _ _ _ _ _ _ _ _ _ => er_ret rfl rfl,
  fun _ _ _ _ _ _ _ _ _ => er_go rfl rfl,
  fun _ _ _ _ _ _ _ _ _ _ => er_go rfl rfl,
  fun _ _ _ _ _ _ _ _ _ => er_go rfl rfl,
  fun _ _ _ _ _ _ _ _ _ _ => er_go rfl rfl,
  fun _ _ _ _ _ _ _ _ _ => er_go rfl rfl,
  fun _ _ _ _ _ _ _ _ => er_go rfl rfl,
  fun _ _ _ _ _ _ _ _ _ _ => er_get1 rfl,
  fun _ _ _ _ _ _ _ _ _ => er_go rfl rfl,
  fun _ _ _ _ _ _ _ _ _ _ _ => er_iald rfl,
  fun _ _ _ _ _ _ _ _ _ _ _ => er_ic_ge rfl,
  fun _ _ _ _ _ _ _ _ _ => er_go rfl rfl,
  fun _ _ _ _ _ _ _ _ _ => er_go rfl rfl,
  fun _ _ _ _ _ _ _ _ => er_go rfl rfl,
  fun _ _ _ _ _ _ _ _ _ => er_go rfl rfl,
  fun _ _ _ _ _ _ _ _ _ => er_go rfl rfl,
  fun _ _ _ _ _ _ _ _ _ _ _ _ => er_callV rfl rfl rfl rfl,
  fun _ _ _ _ _ _ _ _ _ => er_go rfl rfl,
  fun _ _ _ _ _ _ _ _ _ _ _ => er_ic_ne rfl,
  fun _ _ _ _ _ _ _ _ _ => er_go rfl rfl,
  fun _ _ _ _ _ _ _ _ _ => er_go rfl rfl,
  fun _ _ _ _ _ _ _ _ _ => er_go rfl rfl,
  fun _ _ _ _ _ _ _ _ _ _ _ => er_go rfl rfl,
  fun _ _ _ _ _ _ _ _ _ _ => er_go rfl rfl,
  fun _ _ _ _ _ _ _ _ _ => er_go rfl rfl,
  fun _ _ _ _ _ _ _ _ _ => er_go rfl rfl,
  fun _ _ _ _ _ _ _ _ _ => er_go rfl rfl,
  fun _ _ _ _ _ _ _ _ _ => er_ret rfl rfl,
  fun _ _ _ _ _ _ _ _ _ => er_go rfl rfl,
  fun _ _ _ _ _ _ _ _ _ => er_ret rfl rfl⟩
set_option maxRecDepth 100000 in
theorem hd100_78 : ∀ (P : Nat × Nat) (l0 : Option Value) (l1 : Option Value) (l2 : Option Value) (l3 : Option Value) (l5 : Option Value) (x0 : Int32) (s : List Value) (h : am_H), am_E P 100 78 [l0, l1, l2, l3, some (.int x0), l5] s h = am_E P 100 80 [l0, l1, l2, l3, some (.int x0), l5] (.int x0 :: s) h := fun _ _ _ _ _ _ _ _ _ => er_go rfl rfl
set_option maxRecDepth 100000 in
theorem hd100_156 : ∀ (P : Nat × Nat) (l0 : Option Value) (l1 : Option Value) (l2 : Option Value) (l3 : Option Value) (l4 : Option Value) (x0 : Int32) (s : List Value) (h : am_H), am_E P 100 156 [l0, l1, l2, l3, l4, some (.int x0)] s h = am_E P 100 158 [l0, l1, l2, l3, l4, some (.int x0)] (.int x0 :: s) h := fun _ _ _ _ _ _ _ _ _ => er_go rfl rfl
set_option maxRecDepth 100000 in
/-- TwoStepOutputsModel.part(III)I -/
theorem r101 : (∀ (P : Nat × Nat) (l1 : Option Value) (l2 : Option Value) (l3 : Option Value) (a0 : Nat) (s : List Value) (h : am_H), am_E P 101 0 [some (.ref a0), l1, l2, l3] s h = am_E P 101 1 [some (.ref a0), l1, l2, l3] (.ref a0 :: s) h) ∧
  (∀ (P : Nat × Nat) (l1 : Option Value) (l2 : Option Value) (l3 : Option Value) (s : List Value) (h : am_H), am_E P 101 0 [some .null, l1, l2, l3] s h = am_E P 101 1 [some .null, l1, l2, l3] (.null :: s) h) ∧
  (∀ (P : Nat × Nat) (l0 : Option Value) (l2 : Option Value) (l3 : Option Value) (x0 : Int32) (s : List Value) (h : am_H), am_E P 101 1 [l0, some (.int x0), l2, l3] s h = am_E P 101 2 [l0, some (.int x0), l2, l3] (.int x0 :: s) h) ∧
  (∀ (P : Nat × Nat) (l0 : Option Value) (l1 : Option Value) (l2 : Option Value) (l3 : Option Value) (a0 : Nat) (x0 : Int32) (h : am_H), am_E P 101 2 [l0, l1, l2, l3] [.int x0, .ref a0] h = if am_cls h a0 = some 9 then (am_E P 75 0 [some (.ref a0), some (.int x0)] [] h).bind (fun q => am_E P 101 5 [l0, l1, l2, l3] (q.1.toList ++ []) q.2) else none) ∧
  (∀ (P : Nat × Nat) (l0 : Option Value) (l1 : Option Value) (l2 : Option Value) (l3 : Option Value) (x0 : Int32) (s : List Value) (h : am_H), am_E P 101 5 [l0, l1, l2, l3] (.int x0 :: s) h = if x0 = 0 then am_E P 101 8 [l0, l1, l2, l3] s h else am_E P 101 24 [l0, l1, l2, l3] s h) ∧
  (∀ (P : Nat × Nat) (l0 : Option Value) (l1 : Option Value) (l3 : Option Value) (x0 : Int32) (s : List Value) (h : am_H), am_E P 101 8 [l0, l1, some (.int x0), l3] s h = am_E P 101 9 [l0, l1, some (.int x0), l3] (.int x0 :: s) h) ∧
  (∀ (P : Nat × Nat) (l0 : Option Value) (l1 : Option Value) (l2 : Option Value) (l3 : Option Value) (s : List Value) (h : am_H), am_E P 101 9 [l0, l1, l2, l3] s h = am_E P 101 10 [l0, l1, l2, l3] (.int 0 :: s) h) ∧
  (∀ (P : Nat × Nat) (l1 : Option Value) (l2 : Option Value) (l3 : Option Value) (a0 : Nat) (s : List Value) (h : am_H), am_E P 101 10 [some (.ref a0), l1, l2, l3] s h = am_E P 101 11 [some (.ref a0), l1, l2, l3] (.ref a0 :: s) h) ∧
  (∀ (P : Nat × Nat) (l1 : Option Value) (l2 : Option Value) (l3 : Option Value) (s : List Value) (h : am_H), am_E P 101 10 [some .null, l1, l2, l3] s h = am_E P 101 11 [some .null, l1, l2, l3] (.null :: s) h) ∧
  (∀ (P : Nat × Nat) (l0 : Option Value) (l1 : Option Value) (l2 : Option Value) (l3 : Option Value) (a0 : Nat) (s : List Value) (h : am_H), am_E P 101 11 [l0, l1, l2, l3] (.ref a0 :: s) h = (am_g1 h a0 9 5).bind (fun v => am_E P 101 14 [l0, l1, l2, l3] (v :: s) h)) ∧
  (∀ (P : Nat × Nat) (l0 : Option Value) (l2 : Option Value) (l3 : Option Value) (x0 : Int32) (s : List Value) (h : am_H), am_E P 101 14 [l0, some (.int x0), l2, l3] s h = am_E P 101 15 [l0, some (.int x0), l2, l3] (.int x0 :: s) h) ∧
  (∀ (P : Nat × Nat) (l0 : Option Value) (l1 : Option Value) (l2 : Option Value) (l3 : Option Value) (x0 : Int32) (a0 : Nat) (s : List Value) (h : am_H), am_E P 101 15 [l0, l1, l2, l3] (.int x0 :: .ref a0 :: s) h = (am_iald h a0 x0).bind (fun v => am_E P 101 16 [l0, l1, l2, l3] (.int v :: s) h)) ∧
  (∀ (P : Nat × Nat) (l0 : Option Value) (l1 : Option Value) (l2 : Option Value) (l3 : Option Value) (s : List Value) (h : am_H), am_E P 101 16 [l0, l1, l2, l3] s h = am_E P 101 17 [l0, l1, l2, l3] (.int 1 :: s) h) ∧
  (∀ (P : Nat × Nat) (l0 : Option Value) (l1 : Option Value) (l2 : Option Value) (l3 : Option Value) (x0 : Int32) (x1 : Int32) (s : List Value) (h : am_H), am_E P 101 17 [l0, l1, l2, l3] (.int x1 :: .int x0 :: s) h = am_E P 101 18 [l0, l1, l2, l3] (.int (x0 - x1) :: s) h) ∧
  (∀ (P : Nat × Nat) (l0 : Option Value) (l1 : Option Value) (l2 : Option Value) (l3 : Option Value) (x0 : Int32) (x1 : Int32) (x2 : Int32) (h : am_H), am_E P 101 18 [l0, l1, l2, l3] [.int x2, .int x1, .int x0] h = (am_E P 74 0 [some (.int x0), some (.int x1), some (.int x2)] [] h).bind (fun q => am_E P 101 21 [l0, l1, l2, l3] (q.1.toList ++ []) q.2)) ∧
  (∀ (P : Nat × Nat) (l0 : Option Value) (l1 : Option Value) (l2 : Option Value) (l3 : Option Value) (x0 : Int32) (s : List Value) (h : am_H), am_E P 101 21 [l0, l1, l2, l3] (.int x0 :: s) h = if x0 = 0 then am_E P 101 26 [l0, l1, l2, l3] s h else am_E P 101 24 [l0, l1, l2, l3] s h) ∧
  (∀ (P : Nat × Nat) (l0 : Option Value) (l1 : Option Value) (l2 : Option Value) (l3 : Option Value) (s : List Value) (h : am_H), am_E P 101 24 [l0, l1, l2, l3] s h = am_E P 101 25 [l0, l1, l2, l3] (.int (-1) :: s) h) ∧
  (∀ (P : Nat × Nat) (l0 : Option Value) (l1 : Option Value) (l2 : Option Value) (l3 : Option Value) (x0 : Int32) (h : am_H), am_E P 101 25 [l0, l1, l2, l3] [.int x0] h = some (some (.int x0), h)) ∧
  (∀ (P : Nat × Nat) (l0 : Option Value) (l1 : Option Value) (l2 : Option Value) (x0 : Int32) (s : List Value) (h : am_H), am_E P 101 26 [l0, l1, l2, some (.int x0)] s h = am_E P 101 27 [l0, l1, l2, some (.int x0)] (.int x0 :: s) h) ∧
  (∀ (P : Nat × Nat) (l0 : Option Value) (l1 : Option Value) (l2 : Option Value) (l3 : Option Value) (x0 : Int32) (s : List Value) (h : am_H), am_E P 101 27 [l0, l1, l2, l3] (.int x0 :: s) h = if x0 = 0 then am_E P 101 30 [l0, l1, l2, l3] s h else am_E P 101 39 [l0, l1, l2, l3] s h) ∧
  (∀ (P : Nat × Nat) (l1 : Option Value) (l2 : Option Value) (l3 : Option Value) (a0 : Nat) (s : List Value) (h : am_H), am_E P 101 30 [some (.ref a0), l1, l2, l3] s h = am_E P 101 31 [some (.ref a0), l1, l2, l3] (.ref a0 :: s) h) ∧
  (∀ (P : Nat × Nat) (l1 : Option Value) (l2 : Option Value) (l3 : Option Value) (s : List Value) (h : am_H), am_E P 101 30 [some .null, l1, l2, l3] s h = am_E P 101 31 [some .null, l1, l2, l3] (.null :: s) h) ∧
  (∀ (P : Nat × Nat) (l0 : Option Value) (l2 : Option Value) (l3 : Option Value) (x0 : Int32) (s : List Value) (h : am_H), am_E P 101 31 [l0, some (.int x0), l2, l3] s h = am_E P 101 32 [l0, some (.int x0), l2, l3] (.int x0 :: s) h) ∧
  (∀ (P : Nat × Nat) (l0 : Option Value) (l1 : Option Value) (l3 : Option Value) (x0 : Int32) (s : List Value) (h : am_H), am_E P 101 32 [l0, l1, some (.int x0), l3] s h = am_E P 101 33 [l0, l1, some (.int x0), l3] (.int x0 :: s) h) ∧
  (∀ (P : Nat × Nat) (l0 : Option Value) (l1 : Option Value) (l2 : Option Value) (l3 : Option Value) (a0 : Nat) (x0 : Int32) (x1 : Int32) (h : am_H), am_E P 101 33 [l0, l1, l2, l3] [.int x1, .int x0, .ref a0] h = if am_cls h a0 = some 9 then (am_E P 81 0 [some (.ref a0), some (.int x0), some (.int x1), none] [] h).bind (fun q => am_E P 101 36 [l0, l1, l2, l3] (q.1.toList ++ []) q.2) else none) ∧
  (∀ (P : Nat × Nat) (l0 : Option Value) (l1 : Option Value) (l2 : Option Value) (l3 : Option Value) (s : List Value) (h : am_H), am_E P 101 36 [l0, l1, l2, l3] s h = am_E P 101 69 [l0, l1, l2, l3] s h) ∧
  (∀ (P : Nat × Nat) (l0 : Option Value) (l1 : Option Value) (l2 : Option Value) (x0 : Int32) (s : List Value) (h : am_H), am_E P 101 39 [l0, l1, l2, some (.int x0)] s h = am_E P 101 40 [l0, l1, l2, some (.int x0)] (.int x0 :: s) h) ∧
  (∀ (P : Nat × Nat) (l0 : Option Value) (l1 : Option Value) (l2 : Option Value) (l3 : Option Value) (s : List Value) (h : am_H), am_E P 101 40 [l0, l1, l2, l3] s h = am_E P 101 41 [l0, l1, l2, l3] (.int 1 :: s) h) ∧
  (∀ (P : Nat × Nat) (l0 : Option Value) (l1 : Option Value) (l2 : Option Value) (l3 : Option Value) (x0 : Int32) (x1 : Int32) (s : List Value) (h : am_H), am_E P 101 41 [l0, l1, l2, l3] (.int x1 :: .int x0 :: s) h = if x0 = x1 then am_E P 101 44 [l0, l1, l2, l3] s h else am_E P 101 53 [l0, l1, l2, l3] s h) ∧
  (∀ (P : Nat × Nat) (l1 : Option Value) (l2 : Option Value) (l3 : Option Value) (a0 : Nat) (s : List Value) (h : am_H), am_E P 101 44 [some (.ref a0), l1, l2, l3] s h = am_E P 101 45 [some (.ref a0), l1, l2, l3] (.ref a0 :: s) h) ∧
  (∀ (P : Nat × Nat) (l1 : Option Value) (l2 : Option Value) (l3 : Option Value) (s : List Value) (h : am_H), am_E P 101 44 [some .null, l1, l2, l3] s h = am_E P 101 45 [some .null, l1, l2, l3] (.null :: s) h) ∧
  (∀ (P : Nat × Nat) (l0 : Option Value) (l2 : Option Value) (l3 : Option Value) (x0 : Int32) (s : List Value) (h : am_H), am_E P 101 45 [l0, some (.int x0), l2, l3] s h = am_E P 101 46 [l0, some (.int x0), l2, l3] (.int x0 :: s) h) ∧
  (∀ (P : Nat × Nat) (l0 : Option Value) (l1 : Option Value) (l3 : Option Value) (x0 : Int32) (s : List Value) (h : am_H), am_E P 101 46 [l0, l1, some (.int x0), l3] s h = am_E P 101 47 [l0, l1, some (.int x0), l3] (.int x0 :: s) h) ∧
  (∀ (P : Nat × Nat) (l0 : Option Value) (l1 : Option Value) (l2 : Option Value) (l3 : Option Value) (a0 : Nat) (x0 : Int32) (x1 : Int32) (h : am_H), am_E P 101 47 [l0, l1, l2, l3] [.int x1, .int x0, .ref a0] h = if am_cls h a0 = some 9 then (am_E P 79 0 [some (.ref a0), some (.int x0), some (.int x1), none, none] [] h).bind (fun q => am_E P 101 50 [l0, l1, l2, l3] (q.1.toList ++ []) q.2) else none) ∧
  (∀ (P : Nat × Nat) (l0 : Option Value) (l1 : Option Value) (l2 : Option Value) (l3 : Option Value) (s : List Value) (h : am_H), am_E P 101 50 [l0, l1, l2, l3] s h = am_E P 101 69 [l0, l1, l2, l3] s h) ∧
  (∀ (P : Nat × Nat) (l0 : Option Value) (l1 : Option Value) (l2 : Option Value) (x0 : Int32) (s : List Value) (h : am_H), am_E P 101 53 [l0, l1, l2, some (.int x0)] s h = am_E P 101 54 [l0, l1, l2, some (.int x0)] (.int x0 :: s) h) ∧
  (∀ (P : Nat × Nat) (l0 : Option Value) (l1 : Option Value) (l2 : Option Value) (l3 : Option Value) (s : List Value) (h : am_H), am_E P 101 54 [l0, l1, l2, l3] s h = am_E P 101 55 [l0, l1, l2, l3] (.int 2 :: s) h) ∧
  (∀ (P : Nat × Nat) (l0 : Option Value) (l1 : Option Value) (l2 : Option Value) (l3 : Option Value) (x0 : Int32) (x1 : Int32) (s : List Value) (h : am_H), am_E P 101 55 [l0, l1, l2, l3] (.int x1 :: .int x0 :: s) h = if x0 = x1 then am_E P 101 58 [l0, l1, l2, l3] s h else am_E P 101 67 [l0, l1, l2, l3] s h) ∧
  (∀ (P : Nat × Nat) (l1 : Option Value) (l2 : Option Value) (l3 : Option Value) (a0 : Nat) (s : List Value) (h : am_H), am_E P 101 58 [some (.ref a0), l1, l2, l3] s h = am_E P 101 59 [some (.ref a0), l1, l2, l3] (.ref a0 :: s) h) ∧
  (∀ (P : Nat × Nat) (l1 : Option Value) (l2 : Option Value) (l3 : Option Value) (s : List Value) (h : am_H), am_E P 101 58 [some .null, l1, l2, l3] s h = am_E P 101 59 [some .null, l1, l2, l3] (.null :: s) h) ∧
  (∀ (P : Nat × Nat) (l0 : Option Value) (l2 : Option Value) (l3 : Option Value) (x0 : Int32) (s : List Value) (h : am_H), am_E P 101 59 [l0, some (.int x0), l2, l3] s h = am_E P 101 60 [l0, some (.int x0), l2, l3] (.int x0 :: s) h) ∧
  (∀ (P : Nat × Nat) (l0 : Option Value) (l1 : Option Value) (l3 : Option Value) (x0 : Int32) (s : List Value) (h : am_H), am_E P 101 60 [l0, l1, some (.int x0), l3] s h = am_E P 101 61 [l0, l1, some (.int x0), l3] (.int x0 :: s) h) ∧
  (∀ (P : Nat × Nat) (l0 : Option Value) (l1 : Option Value) (l2 : Option Value) (l3 : Option Value) (a0 : Nat) (x0 : Int32) (x1 : Int32) (h : am_H), am_E P 101 61 [l0, l1, l2, l3] [.int x1, .int x0, .ref a0] h = if am_cls h a0 = some 9 then (am_E P 80 0 [some (.ref a0), some (.int x0), some (.int x1), none, none] [] h).bind (fun q => am_E P 101 64 [l0, l1, l2, l3] (q.1.toList ++ []) q.2) else none) ∧
  (∀ (P : Nat × Nat) (l0 : Option Value) (l1 : Option Value) (l2 : Option Value) (l3 : Option Value) (s : List Value) (h : am_H), am_E P 101 64 [l0, l1, l2, l3] s h = am_E P 101 69 [l0, l1, l2, l3] s h) ∧
  (∀ (P : Nat × Nat) (l0 : Option Value) (l1 : Option Value) (l2 : Option Value) (l3 : Option Value) (s : List Value) (h : am_H), am_E P 101 67 [l0, l1, l2, l3] s h = am_E P 101 69 [l0, l1, l2, l3] (.int (-2) :: s) h) ∧
  (∀ (P : Nat × Nat) (l0 : Option Value) (l1 : Option Value) (l2 : Option Value) (l3 : Option Value) (x0 : Int32) (h : am_H), am_E P 101 69 [l0, l1, l2, l3] [.int x0] h = some (some (.int x0), h)) :=
  ⟨fun _ _ _ _ _ _ _ => er_go rfl rfl,
  fun _ _ _ _ _ _ => er_go rfl rfl,
  fun _ _ _ _ _ _ _ => er_go rfl rfl,
  fun _ _ _ _ _ _ _ _ => er_callV rfl rfl rfl rfl,
  fun _ _ _ _ _ _ _ _ => er_if_ne rfl,
  fun _ _ _ _ _ _ _ => er_go rfl rfl,
  fun _ _ _ _ _ _ _ => er_go rfl rfl,
  fun _ _ _ _ _ _ _ => er_go rfl rfl,
  fun _ _ _ _ _ _ => er_go rfl rfl,
  fun _ _ _ _ _ _ _ _ => er_get1 rfl,
  fun _ _ _ _ _ _ _ => er_go rfl rfl,
  fun _ _ _ _ _ _ _ _ _ => er_iald rfl,
  fun _ _ _ _ _ _ _ => er_go rfl rfl,
  fun _ _ _ _ _ _ _ _ _ => er_go rfl rfl,
  fun _ _ _ _ _ _ _ _ _ => er_callS rfl rfl rfl,
  fun _ _ _ _ _ _ _ _ => er_if_eq rfl,
  fun _ _ _ _ _ _ _ => er_go rfl rfl,
  fun _ _ _ _ _ _ _ => er_ret rfl rfl,
  fun _ _ _ _ _ _ _ => er_go rfl rfl,
  fun _ _ _ _ _ _ _ _ => er_if_ne rfl,
  fun _ _ _ _ _ _ _ => er_go rfl rfl,
  fun _ _ _ _ _ _ => er_go rfl rfl,
  fun _ _ _ _ _ _ _ => er_go rfl rfl,
  fun _ _ _ _ _ _ _ => er_go rfl rfl,
  fun _ _ _ _ _ _ _ _ _ => er_callV rfl rfl rfl rfl,
  fun _ _ _ _ _ _ _ => er_go rfl rfl,
  fun _ _ _ _ _ _ _ => er_go rfl rfl,
  fun _ _ _ _ _ _ _ => er_go rfl rfl,
  fun _ _ _ _ _ _ _ _ _ => er_ic_ne rfl,
  fun _ _ _ _ _ _ _ => er_go rfl rfl,
  fun _ _ _ _ _ _ => er_go rfl rfl,
  fun _ _ _ _ _ _ _ => er_go rfl rfl,
  fun _ _ _ _ _ _ _ => er_go rfl rfl,
  fun _ _ _ _ _ _ _ _ _ => er_callV rfl rfl rfl rfl,
  fun _ _ _ _ _ _ _ => er_go rfl rfl,
  fun _ _ _ _ _ _ _ => er_go rfl rfl,
  fun _ _ _ _ _ _ _ => er_go rfl rfl,
  fun _ _ _ _ _ _ _ _ _ => er_ic_ne rfl,
  fun _ _ _ _ _ _ _ => er_go rfl rfl,
  fun _ _ _ _ _ _ => er_go rfl rfl,
  fun _ _ _ _ _ _ _ => er_go rfl rfl,
  fun _ _ _ _ _ _ _ => er_go rfl rfl,
  fun _ _ _ _ _ _ _ _ _ => er_callV rfl rfl rfl rfl,
  fun _ _ _ _ _ _ _ => er_go rfl rfl,
  fun _ _ _ _ _ _ _ => er_go rfl rfl,
  fun _ _ _ _ _ _ _ => er_ret rfl rfl⟩
set_option maxRecDepth 100000 in
/-- TwoStepOutputsModel.line(III)J -/
theorem r102 : (∀ (P : Nat × Nat) (l1 : Option Value) (l2 : Option Value) (l3 : Option Value) (l4 : Option Value) (a0 : Nat) (s : List Value) (h : am_H), am_E P 102 0 [some (.ref a0), l1, l2, l3, l4] s h = am_E P 102 1 [some (.ref a0), l1, l2, l3, l4] (.ref a0 :: s) h) ∧
  (∀ (P : Nat × Nat) (l1 : Option Value) (l2 : Option Value) (l3 : Option Value) (l4 : Option Value) (s : List Value) (h : am_H), am_E P 102 0 [some .null, l1, l2, l3, l4] s h = am_E P 102 1 [some .null, l1, l2, l3, l4] (.null :: s) h) ∧
  (∀ (P : Nat × Nat) (l0 : Option Value) (l2 : Option Value) (l3 : Option Value) (l4 : Option Value) (x0 : Int32) (s : List Value) (h : am_H), am_E P 102 1 [l0, some (.int x0), l2, l3, l4] s h = am_E P 102 2 [l0, some (.int x0), l2, l3, l4] (.int x0 :: s) h) ∧
  (∀ (P : Nat × Nat) (l0 : Option Value) (l1 : Option Value) (l2 : Option Value) (l3 : Option Value) (l4 : Option Value) (a0 : Nat) (x0 : Int32) (h : am_H), am_E P 102 2 [l0, l1, l2, l3, l4] [.int x0, .ref a0] h = if am_cls h a0 = some 9 then (am_E P 75 0 [some (.ref a0), some (.int x0)] [] h).bind (fun q => am_E P 102 5 [l0, l1, l2, l3, l4] (q.1.toList ++ []) q.2) else none) ∧
  (∀ (P : Nat × Nat) (l0 : Option Value) (l1 : Option Value) (l2 : Option Value) (l3 : Option Value) (l4 : Option Value) (x0 : Int32) (s : List Value) (h : am_H), am_E P 102 5 [l0, l1, l2, l3, l4] (.int x0 :: s) h = if x0 = 0 then am_E P 102 8 [l0, l1, l2, l3, l4] s h else am_E P 102 33 [l0, l1, l2, l3, l4] s h) ∧
  (∀ (P : Nat × Nat) (l1 : Option Value) (l2 : Option Value) (l3 : Option Value) (l4 : Option Value) (a0 : Nat) (s : List Value) (h : am_H), am_E P 102 8 [some (.ref a0), l1, l2, l3, l4] s h = am_E P 102 9 [some (.ref a0), l1, l2, l3, l4] (.ref a0 :: s) h) ∧
  (∀ (P : Nat × Nat) (l1 : Option Value) (l2 : Option Value) (l3 : Option Value) (l4 : Option Value) (s : List Value) (h : am_H), am_E P 102 8 [some .null, l1, l2, l3, l4] s h = am_E P 102 9 [some .null, l1, l2, l3, l4] (.null :: s) h) ∧
  (∀ (P : Nat × Nat) (l0 : Option Value) (l1 : Option Value) (l2 : Option Value) (l3 : Option Value) (l4 : Option Value) (a0 : Nat) (s : List Value) (h : am_H), am_E P 102 9 [l0, l1, l2, l3, l4] (.ref a0 :: s) h = (am_g1 h a0 9 1).bind (fun v => am_E P 102 12 [l0, l1, l2, l3, l4] (v :: s) h)) ∧
  (∀ (P : Nat × Nat) (l0 : Option Value) (l2 : Option Value) (l3 : Option Value) (l4 : Option Value) (x0 : Int32) (s : List Value) (h : am_H), am_E P 102 12 [l0, some (.int x0), l2, l3, l4] s h = am_E P 102 13 [l0, some (.int x0), l2, l3, l4] (.int x0 :: s) h) ∧
  (∀ (P : Nat × Nat) (l0 : Option Value) (l1 : Option Value) (l2 : Option Value) (l3 : Option Value) (l4 : Option Value) (x0 : Int32) (a0 : Nat) (s : List Value) (h : am_H), am_E P 102 13 [l0, l1, l2, l3, l4] (.int x0 :: .ref a0 :: s) h = (am_iald h a0 x0).bind (fun v => am_E P 102 14 [l0, l1, l2, l3, l4] (.int v :: s) h)) ∧
  (∀ (P : Nat × Nat) (l0 : Option Value) (l1 : Option Value) (l2 : Option Value) (l3 : Option Value) (l4 : Option Value) (x0 : Int32) (s : List Value) (h : am_H), am_E P 102 14 [l0, l1, l2, l3, l4] (.int x0 :: s) h = if x0 = 0 then am_E P 102 17 [l0, l1, l2, l3, l4] s h else am_E P 102 33 [l0, l1, l2, l3, l4] s h) ∧
  (∀ (P : Nat × Nat) (l0 : Option Value) (l1 : Option Value) (l3 : Option Value) (l4 : Option Value) (x0 : Int32) (s : List Value) (h : am_H), am_E P 102 17 [l0, l1, some (.int x0), l3, l4] s h = am_E P 102 18 [l0, l1, some (.int x0), l3, l4] (.int x0 :: s) h) ∧
  (∀ (P : Nat × Nat) (l0 : Option Value) (l1 : Option Value) (l2 : Option Value) (l3 : Option Value) (l4 : Option Value) (s : List Value) (h : am_H), am_E P 102 18 [l0, l1, l2, l3, l4] s h = am_E P 102 19 [l0, l1, l2, l3, l4] (.int 0 :: s) h) ∧
  (∀ (P : Nat × Nat) (l1 : Option Value) (l2 : Option Value) (l3 : Option Value) (l4 : Option Value) (a0 : Nat) (s : List Value) (h : am_H), am_E P 102 19 [some (.ref a0), l1, l2, l3, l4] s h = am_E P 102 20 [some (.ref a0), l1, l2, l3, l4] (.ref a0 :: s) h) ∧
  (∀ (P : Nat × Nat) (l1 : Option Value) (l2 : Option Value) (l3 : Option Value) (l4 : Option Value) (s : List Value) (h : am_H), am_E P 102 19 [some .null, l1, l2, l3, l4] s h = am_E P 102 20 [some .null, l1, l2, l3, l4] (.null :: s) h) ∧
  (∀ (P : Nat × Nat) (l0 : Option Value) (l1 : Option Value) (l2 : Option Value) (l3 : Option Value) (l4 : Option Value) (a0 : Nat) (s : List Value) (h : am_H), am_E P 102 20 [l0, l1, l2, l3, l4] (.ref a0 :: s) h = (am_g1 h a0 9 14).bind (fun v => am_E P 102 23 [l0, l1, l2, l3, l4] (v :: s) h)) ∧
  (∀ (P : Nat × Nat) (l0 : Option Value) (l2 : Option Value) (l3 : Option Value) (l4 : Option Value) (x0 : Int32) (s : List Value) (h : am_H), am_E P 102 23 [l0, some (.int x0), l2, l3, l4] s h = am_E P 102 24 [l0, some (.int x0), l2, l3, l4] (.int x0 :: s) h) ∧
  (∀ (P : Nat × Nat) (l0 : Option Value) (l1 : Option Value) (l2 : Option Value) (l3 : Option Value) (l4 : Option Value) (x0 : Int32) (a0 : Nat) (s : List Value) (h : am_H), am_E P 102 24 [l0, l1, l2, l3, l4] (.int x0 :: .ref a0 :: s) h = (am_iald h a0 x0).bind (fun v => am_E P 102 25 [l0, l1, l2, l3, l4] (.int v :: s) h)) ∧
  (∀ (P : Nat × Nat) (l0 : Option Value) (l1 : Option Value) (l2 : Option Value) (l3 : Option Value) (l4 : Option Value) (s : List Value) (h : am_H), am_E P 102 25 [l0, l1, l2, l3, l4] s h = am_E P 102 26 [l0, l1, l2, l3, l4] (.int 1 :: s) h) ∧
  (∀ (P : Nat × Nat) (l0 : Option Value) (l1 : Option Value) (l2 : Option Value) (l3 : Option Value) (l4 : Option Value) (x0 : Int32) (x1 : Int32) (s : List Value) (h : am_H), am_E P 102 26 [l0, l1, l2, l3, l4] (.int x1 :: .int x0 :: s) h = am_E P 102 27 [l0, l1, l2, l3, l4] (.int (x0 - x1) :: s) h) ∧
  (∀ (P : Nat × Nat) (l0 : Option Value) (l1 : Option Value) (l2 : Option Value) (l3 : Option Value) (l4 : Option Value) (x0 : Int32) (x1 : Int32) (x2 : Int32) (h : am_H), am_E P 102 27 [l0, l1, l2, l3, l4] [.int x2, .int x1, .int x0] h = (am_E P 74 0 [some (.int x0), some (.int x1), some (.int x2)] [] h).bind (fun q => am_E P 102 30 [l0, l1, l2, l3, l4] (q.1.toList ++ []) q.2)) ∧
  (∀ (P : Nat × Nat) (l0 : Option Value) (l1 : Option Value) (l2 : Option Value) (l3 : Option Value) (l4 : Option Value) (x0 : Int32) (s : List Value) (h : am_H), am_E P 102 30 [l0, l1, l2, l3, l4] (.int x0 :: s) h = if x0 = 0 then am_E P 102 37 [l0, l1, l2, l3, l4] s h else am_E P 102 33 [l0, l1, l2, l3, l4] s h) ∧
  (∀ (P : Nat × Nat) (l0 : Option Value) (l1 : Option Value) (l2 : Option Value) (l3 : Option Value) (l4 : Option Value) (s : List Value) (h : am_H), am_E P 102 33 [l0, l1, l2, l3, l4] s h = am_E P 102 36 [l0, l1, l2, l3, l4] (.long (-9223372036854775808) :: s) h) ∧
  (∀ (P : Nat × Nat) (l0 : Option Value) (l1 : Option Value) (l2 : Option Value) (l3 : Option Value) (l4 : Option Value) (j0 : Int64) (h : am_H), am_E P 102 36 [l0, l1, l2, l3, l4] [.long j0] h = some (some (.long j0), h)) ∧
  (∀ (P : Nat × Nat) (l0 : Option Value) (l2 : Option Value) (l3 : Option Value) (l4 : Option Value) (x0 : Int32) (s : List Value) (h : am_H), am_E P 102 37 [l0, some (.int x0), l2, l3, l4] s h = am_E P 102 38 [l0, some (.int x0), l2, l3, l4] (.int x0 :: s) h) ∧
  (∀ (P : Nat × Nat) (l0 : Option Value) (l1 : Option Value) (l2 : Option Value) (l3 : Option Value) (l4 : Option Value) (s : List Value) (h : am_H), am_E P 102 38 [l0, l1, l2, l3, l4] s h = am_E P 102 40 [l0, l1, l2, l3, l4] (.int 100 :: s) h) ∧
  (∀ (P : Nat × Nat) (l0 : Option Value) (l1 : Option Value) (l2 : Option Value) (l3 : Option Value) (l4 : Option Value) (x0 : Int32) (x1 : Int32) (s : List Value) (h : am_H), am_E P 102 40 [l0, l1, l2, l3, l4] (.int x1 :: .int x0 :: s) h = am_E P 102 41 [l0, l1, l2, l3, l4] (.int (x0 * x1) :: s) h) ∧
  (∀ (P : Nat × Nat) (l0 : Option Value) (l1 : Option Value) (l2 : Option Value) (l3 : Option Value) (l4 : Option Value) (s : List Value) (h : am_H), am_E P 102 41 [l0, l1, l2, l3, l4] s h = am_E P 102 43 [l0, l1, l2, l3, l4] (.int 20 :: s) h) ∧
  (∀ (P : Nat × Nat) (l0 : Option Value) (l1 : Option Value) (l2 : Option Value) (l3 : Option Value) (l4 : Option Value) (x0 : Int32) (x1 : Int32) (s : List Value) (h : am_H), am_E P 102 43 [l0, l1, l2, l3, l4] (.int x1 :: .int x0 :: s) h = am_E P 102 44 [l0, l1, l2, l3, l4] (.int (x0 * x1) :: s) h) ∧
  (∀ (P : Nat × Nat) (l0 : Option Value) (l1 : Option Value) (l3 : Option Value) (l4 : Option Value) (x0 : Int32) (s : List Value) (h : am_H), am_E P 102 44 [l0, l1, some (.int x0), l3, l4] s h = am_E P 102 45 [l0, l1, some (.int x0), l3, l4] (.int x0 :: s) h) ∧
  (∀ (P : Nat × Nat) (l0 : Option Value) (l1 : Option Value) (l2 : Option Value) (l3 : Option Value) (l4 : Option Value) (x0 : Int32) (x1 : Int32) (s : List Value) (h : am_H), am_E P 102 45 [l0, l1, l2, l3, l4] (.int x1 :: .int x0 :: s) h = am_E P 102 46 [l0, l1, l2, l3, l4] (.int (x0 + x1) :: s) h) ∧
  (∀ (P : Nat × Nat) (l0 : Option Value) (l1 : Option Value) (l2 : Option Value) (l3 : Option Value) (l4 : Option Value) (x0 : Int32) (s : List Value) (h : am_H), am_E P 102 46 [l0, l1, l2, l3, l4] (.int x0 :: s) h = am_E P 102 48 [l0, l1, l2, l3, some (.int x0)] s h) ∧
  (∀ (P : Nat × Nat) (l0 : Option Value) (l1 : Option Value) (l2 : Option Value) (l4 : Option Value) (x0 : Int32) (s : List Value) (h : am_H), am_E P 102 48 [l0, l1, l2, some (.int x0), l4] s h = am_E P 102 49 [l0, l1, l2, some (.int x0), l4] (.int x0 :: s) h) ∧
  (∀ (P : Nat × Nat) (l0 : Option Value) (l1 : Option Value) (l2 : Option Value) (l3 : Option Value) (l4 : Option Value) (x0 : Int32) (s : List Value) (h : am_H), am_E P 102 49 [l0, l1, l2, l3, l4] (.int x0 :: s) h = if x0 = 0 then am_E P 102 52 [l0, l1, l2, l3, l4] s h else am_E P 102 63 [l0, l1, l2, l3, l4] s h) ∧
  (∀ (P : Nat × Nat) (l1 : Option Value) (l2 : Option Value) (l3 : Option Value) (l4 : Option Value) (a0 : Nat) (s : List Value) (h : am_H), am_E P 102 52 [some (.ref a0), l1, l2, l3, l4] s h = am_E P 102 53 [some (.ref a0), l1, l2, l3, l4] (.ref a0 :: s) h) ∧
  (∀ (P : Nat × Nat) (l1 : Option Value) (l2 : Option Value) (l3 : Option Value) (l4 : Option Value) (s : List Value) (h : am_H), am_E P 102 52 [some .null, l1, l2, l3, l4] s h = am_E P 102 53 [some .null, l1, l2, l3, l4] (.null :: s) h) ∧
  (∀ (P : Nat × Nat) (l0 : Option Value) (l1 : Option Value) (l2 : Option Value) (l3 : Option Value) (l4 : Option Value) (a0 : Nat) (s : List Value) (h : am_H), am_E P 102 53 [l0, l1, l2, l3, l4] (.ref a0 :: s) h = (am_g1 h a0 9 15).bind (fun v => am_E P 102 56 [l0, l1, l2, l3, l4] (v :: s) h)) ∧
  (∀ (P : Nat × Nat) (l0 : Option Value) (l1 : Option Value) (l2 : Option Value) (l3 : Option Value) (x0 : Int32) (s : List Value) (h : am_H), am_E P 102 56 [l0, l1, l2, l3, some (.int x0)] s h = am_E P 102 58 [l0, l1, l2, l3, some (.int x0)] (.int x0 :: s) h) ∧
  (∀ (P : Nat × Nat) (l0 : Option Value) (l1 : Option Value) (l2 : Option Value) (l3 : Option Value) (l4 : Option Value) (x0 : Int32) (a0 : Nat) (s : List Value) (h : am_H), am_E P 102 58 [l0, l1, l2, l3, l4] (.int x0 :: .ref a0 :: s) h = (am_iald h a0 x0).bind (fun v => am_E P 102 59 [l0, l1, l2, l3, l4] (.int v :: s) h)) ∧
  (∀ (P : Nat × Nat) (l0 : Option Value) (l1 : Option Value) (l2 : Option Value) (l3 : Option Value) (l4 : Option Value) (x0 : Int32) (s : List Value) (h : am_H), am_E P 102 59 [l0, l1, l2, l3, l4] (.int x0 :: s) h = am_E P 102 60 [l0, l1, l2, l3, l4] (.long x0.toInt64 :: s) h) ∧
  (∀ (P : Nat × Nat) (l0 : Option Value) (l1 : Option Value) (l2 : Option Value) (l3 : Option Value) (l4 : Option Value) (s : List Value) (h : am_H), am_E P 102 60 [l0, l1, l2, l3, l4] s h = am_E P 102 114 [l0, l1, l2, l3, l4] s h) ∧
  (∀ (P : Nat × Nat) (l0 : Option Value) (l1 : Option Value) (l2 : Option Value) (l4 : Option Value) (x0 : Int32) (s : List Value) (h : am_H), am_E P 102 63 [l0, l1, l2, some (.int x0), l4] s h = am_E P 102 64 [l0, l1, l2, some (.int x0), l4] (.int x0 :: s) h) ∧
  (∀ (P : Nat × Nat) (l0 : Option Value) (l1 : Option Value) (l2 : Option Value) (l3 : Option Value) (l4 : Option Value) (s : List Value) (h : am_H), am_E P 102 64 [l0, l1, l2, l3, l4] s h = am_E P 102 65 [l0, l1, l2, l3, l4] (.int 1 :: s) h) ∧
  (∀ (P : Nat × Nat) (l0 : Option Value) (l1 : Option Value) (l2 : Option Value) (l3 : Option Value) (l4 : Option Value) (x0 : Int32) (x1 : Int32) (s : List Value) (h : am_H), am_E P 102 65 [l0, l1, l2, l3, l4] (.int x1 :: .int x0 :: s) h = if x0 = x1 then am_E P 102 68 [l0, l1, l2, l3, l4] s h else am_E P 102 79 [l0, l1, l2, l3, l4] s h) ∧
  (∀ (P : Nat × Nat) (l1 : Option Value) (l2 : Option Value) (l3 : Option Value) (l4 : Option Value) (a0 : Nat) (s : List Value) (h : am_H), am_E P 102 68 [some (.ref a0), l1, l2, l3, l4] s h = am_E P 102 69 [some (.ref a0), l1, l2, l3, l4] (.ref a0 :: s) h) ∧
  (∀ (P : Nat × Nat) (l1 : Option Value) (l2 : Option Value) (l3 : Option Value) (l4 : Option Value) (s : List Value) (h : am_H), am_E P 102 68 [some .null, l1, l2, l3, l4] s h = am_E P 102 69 [some .null, l1, l2, l3, l4] (.null :: s) h) ∧
  (∀ (P : Nat × Nat) (l0 : Option Value) (l1 : Option Value) (l2 : Option Value) (l3 : Option Value) (l4 : Option Value) (a0 : Nat) (s : List Value) (h : am_H), am_E P 102 69 [l0, l1, l2, l3, l4] (.ref a0 :: s) h = (am_g1 h a0 9 16).bind (fun v => am_E P 102 72 [l0, l1, l2, l3, l4] (v :: s) h)) ∧
  (∀ (P : Nat × Nat) (l0 : Option Value) (l1 : Option Value) (l2 : Option Value) (l3 : Option Value) (x0 : Int32) (s : List Value) (h : am_H), am_E P 102 72 [l0, l1, l2, l3, some (.int x0)] s h = am_E P 102 74 [l0, l1, l2, l3, some (.int x0)] (.int x0 :: s) h) ∧
  (∀ (P : Nat × Nat) (l0 : Option Value) (l1 : Option Value) (l2 : Option Value) (l3 : Option Value) (l4 : Option Value) (x0 : Int32) (a0 : Nat) (s : List Value) (h : am_H), am_E P 102 74 [l0, l1, l2, l3, l4] (.int x0 :: .ref a0 :: s) h = (am_iald h a0 x0).bind (fun v => am_E P 102 75 [l0, l1, l2, l3, l4] (.int v :: s) h)) ∧
  (∀ (P : Nat × Nat) (l0 : Option Value) (l1 : Option Value) (l2 : Option Value) (l3 : Option Value) (l4 : Option Value) (x0 : Int32) (s : List Value) (h : am_H), am_E P 102 75 [l0, l1, l2, l3, l4] (.int x0 :: s) h = am_E P 102 76 [l0, l1, l2, l3, l4] (.long x0.toInt64 :: s) h) ∧
  (∀ (P : Nat × Nat) (l0 : Option Value) (l1 : Option Value) (l2 : Option Value) (l3 : Option Value) (l4 : Option Value) (s : List Value) (h : am_H), am_E P 102 76 [l0, l1, l2, l3, l4] s h = am_E P 102 114 [l0, l1, l2, l3, l4] s h) ∧
  (∀ (P : Nat × Nat) (l0 : Option Value) (l1 : Option Value) (l2 : Option Value) (l4 : Option Value) (x0 : Int32) (s : List Value) (h : am_H), am_E P 102 79 [l0, l1, l2, some (.int x0), l4] s h = am_E P 102 80 [l0, l1, l2, some (.int x0), l4] (.int x0 :: s) h) ∧
  (∀ (P : Nat × Nat) (l0 : Option Value) (l1 : Option Value) (l2 : Option Value) (l3 : Option Value) (l4 : Option Value) (s : List Value) (h : am_H), am_E P 102 80 [l0, l1, l2, l3, l4] s h = am_E P 102 81 [l0, l1, l2, l3, l4] (.int 2 :: s) h) ∧
  (∀ (P : Nat × Nat) (l0 : Option Value) (l1 : Option Value) (l2 : Option Value) (l3 : Option Value) (l4 : Option Value) (x0 : Int32) (x1 : Int32) (s : List Value) (h : am_H), am_E P 102 81 [l0, l1, l2, l3, l4] (.int x1 :: .int x0 :: s) h = if x0 = x1 then am_E P 102 84 [l0, l1, l2, l3, l4] s h else am_E P 102 95 [l0, l1, l2, l3, l4] s h) ∧
  (∀ (P : Nat × Nat) (l1 : Option Value) (l2 : Option Value) (l3 : Option Value) (l4 : Option Value) (a0 : Nat) (s : List Value) (h : am_H), am_E P 102 84 [some (.ref a0), l1, l2, l3, l4] s h = am_E P 102 85 [some (.ref a0), l1, l2, l3, l4] (.ref a0 :: s) h) ∧
  (∀ (P : Nat × Nat) (l1 : Option Value) (l2 : Option Value) (l3 : Option Value) (l4 : Option Value) (s : List Value) (h : am_H), am_E P 102 84 [some .null, l1, l2, l3, l4] s h = am_E P 102 85 [some .null, l1, l2, l3, l4] (.null :: s) h) ∧
  (∀ (P : Nat × Nat) (l0 : Option Value) (l1 : Option Value) (l2 : Option Value) (l3 : Option Value) (l4 : Option Value) (a0 : Nat) (s : List Value) (h : am_H), am_E P 102 85 [l0, l1, l2, l3, l4] (.ref a0 :: s) h = (am_g1 h a0 9 17).bind (fun v => am_E P 102 88 [l0, l1, l2, l3, l4] (v :: s) h)) ∧
  (∀ (P : Nat × Nat) (l0 : Option Value) (l1 : Option Value) (l2 : Option Value) (l3 : Option Value) (x0 : Int32) (s : List Value) (h : am_H), am_E P 102 88 [l0, l1, l2, l3, some (.int x0)] s h = am_E P 102 90 [l0, l1, l2, l3, some (.int x0)] (.int x0 :: s) h) ∧
  (∀ (P : Nat × Nat) (l0 : Option Value) (l1 : Option Value) (l2 : Option Value) (l3 : Option Value) (l4 : Option Value) (x0 : Int32) (a0 : Nat) (s : List Value) (h : am_H), am_E P 102 90 [l0, l1, l2, l3, l4] (.int x0 :: .ref a0 :: s) h = (am_iald h a0 x0).bind (fun v => am_E P 102 91 [l0, l1, l2, l3, l4] (.int v :: s) h)) ∧
  (∀ (P : Nat × Nat) (l0 : Option Value) (l1 : Option Value) (l2 : Option Value) (l3 : Option Value) (l4 : Option Value) (x0 : Int32) (s : List Value) (h : am_H), am_E P 102 91 [l0, l1, l2, l3, l4] (.int x0 :: s) h = am_E P 102 92 [l0, l1, l2, l3, l4] (.long x0.toInt64 :: s) h) ∧
  (∀ (P : Nat × Nat) (l0 : Option Value) (l1 : Option Value) (l2 : Option Value) (l3 : Option Value) (l4 : Option Value) (s : List Value) (h : am_H), am_E P 102 92 [l0, l1, l2, l3, l4] s h = am_E P 102 114 [l0, l1, l2, l3, l4] s h) ∧
  (∀ (P : Nat × Nat) (l0 : Option Value) (l1 : Option Value) (l2 : Option Value) (l4 : Option Value) (x0 : Int32) (s : List Value) (h : am_H), am_E P 102 95 [l0, l1, l2, some (.int x0), l4] s h = am_E P 102 96 [l0, l1, l2, some (.int x0), l4] (.int x0 :: s) h) ∧
  (∀ (P : Nat × Nat) (l0 : Option Value) (l1 : Option Value) (l2 : Option Value) (l3 : Option Value) (l4 : Option Value) (s : List Value) (h : am_H), am_E P 102 96 [l0, l1, l2, l3, l4] s h = am_E P 102 97 [l0, l1, l2, l3, l4] (.int 3 :: s) h) ∧
  (∀ (P : Nat × Nat) (l0 : Option Value) (l1 : Option Value) (l2 : Option Value) (l3 : Option Value) (l4 : Option Value) (x0 : Int32) (x1 : Int32) (s : List Value) (h : am_H), am_E P 102 97 [l0, l1, l2, l3, l4] (.int x1 :: .int x0 :: s) h = if x0 = x1 then am_E P 102 100 [l0, l1, l2, l3, l4] s h else am_E P 102 111 [l0, l1, l2, l3, l4] s h) ∧
  (∀ (P : Nat × Nat) (l1 : Option Value) (l2 : Option Value) (l3 : Option Value) (l4 : Option Value) (a0 : Nat) (s : List Value) (h : am_H), am_E P 102 100 [some (.ref a0), l1, l2, l3, l4] s h = am_E P 102 101 [some (.ref a0), l1, l2, l3, l4] (.ref a0 :: s) h) ∧
  (∀ (P : Nat × Nat) (l1 : Option Value) (l2 : Option Value) (l3 : Option Value) (l4 : Option Value) (s : List Value) (h : am_H), am_E P 102 100 [some .null, l1, l2, l3, l4] s h = am_E P 102 101 [some .null, l1, l2, l3, l4] (.null :: s) h) ∧
  (∀ (P : Nat × Nat) (l0 : Option Value) (l1 : Option Value) (l2 : Option Value) (l3 : Option Value) (l4 : Option Value) (a0 : Nat) (s : List Value) (h : am_H), am_E P 102 101 [l0, l1, l2, l3, l4] (.ref a0 :: s) h = (am_g1 h a0 9 18).bind (fun v => am_E P 102 104 [l0, l1, l2, l3, l4] (v :: s) h)) ∧
  (∀ (P : Nat × Nat) (l0 : Option Value) (l1 : Option Value) (l2 : Option Value) (l3 : Option Value) (x0 : Int32) (s : List Value) (h : am_H), am_E P 102 104 [l0, l1, l2, l3, some (.int x0)] s h = am_E P 102 106 [l0, l1, l2, l3, some (.int x0)] (.int x0 :: s) h) ∧
  (∀ (P : Nat × Nat) (l0 : Option Value) (l1 : Option Value) (l2 : Option Value) (l3 : Option Value) (l4 : Option Value) (x0 : Int32) (a0 : Nat) (s : List Value) (h : am_H), am_E P 102 106 [l0, l1, l2, l3, l4] (.int x0 :: .ref a0 :: s) h = (am_iald h a0 x0).bind (fun v => am_E P 102 107 [l0, l1, l2, l3, l4] (.int v :: s) h)) ∧
  (∀ (P : Nat × Nat) (l0 : Option Value) (l1 : Option Value) (l2 : Option Value) (l3 : Option Value) (l4 : Option Value) (x0 : Int32) (s : List Value) (h : am_H), am_E P 102 107 [l0, l1, l2, l3, l4] (.int x0 :: s) h = am_E P 102 108 [l0, l1, l2, l3, l4] (.long x0.toInt64 :: s) h) ∧
  (∀ (P : Nat × Nat) (l0 : Option Value) (l1 : Option Value) (l2 : Option Value) (l3 : Option Value) (l4 : Option Value) (s : List Value) (h : am_H), am_E P 102 108 [l0, l1, l2, l3, l4] s h = am_E P 102 114 [l0, l1, l2, l3, l4] s h) ∧
  (∀ (P : Nat × Nat) (l0 : Option Value) (l1 : Option Value) (l2 : Option Value) (l3 : Option Value) (l4 : Option Value) (s : List Value) (h : am_H), am_E P 102 111 [l0, l1, l2, l3, l4] s h = am_E P 102 114 [l0, l1, l2, l3, l4] (.long (-9223372036854775808) :: s) h) ∧
  (∀ (P : Nat × Nat) (l0 : Option Value) (l1 : Option Value) (l2 : Option Value) (l3 : Option Value) (l4 : Option Value) (j0 : Int64) (h : am_H), am_E P 102 114 [l0, l1, l2, l3, l4] [.long j0] h = some (some (.long j0), h)) :=
  ⟨fun _ _ _ _ _ _ _ _ => er_go rfl rfl,
  fun _ _ _ _ _ _ _ => er_go rfl rfl,
  fun _ _ _ _ _ _ _ _ => er_go rfl rfl,
  fun _ _ _ _ _ _ _ _ _ => er_callV rfl rfl rfl rfl,
  fun _ _ _ _ _ _ _ _ _ => er_if_ne rfl,
  fun _ _ _ _ _ _ _ _ => er_go rfl rfl,
  fun _ _ _ _ _ _ _ => er_go rfl rfl,
  fun _ _ _ _ _ _ _ _ _ => er_get1 rfl,
  fun _ _ _ _ _ _ _ _ => er_go rfl rfl,
  fun _ _ _ _ _ _ _ _ _ _ => er_iald rfl,
  fun _ _ _ _ _ _ _ _ _ => er_if_ne rfl,
  fun _ _ _ _ _ _ _ _ => er_go rfl rfl,
  fun _ _ _ _ _ _ _ _ => er_go rfl rfl,
  fun _ _ _ _ _ _ _ _ => er_go rfl rfl,
  fun _ _ _ _ _ _ _ => er_go rfl rfl,
  fun _ _ _ _ _ _ _ _ _ => er_get1 rfl,
  fun _ _ _ _ _ _ _ _ => er_go rfl rfl,
  fun _ _ _ _ _ _ _ _ _ _ => er_iald rfl,
  fun _ _ _ _ _ _ _ _ => er_go rfl rfl,
  fun _ _ _ _ _ _ _ _ _ _ => er_go rfl rfl,
  fun _ _ _ _ _ _ _ _ _ _ => er_callS rfl rfl rfl,
  fun _ _ _ _ _ _ _ _ _ => er_if_eq rfl,
  fun _ _ _ _ _ _ _ _ => er_go rfl rfl,
  fun _ _ _ _ _ _ _ _ => er_ret rfl rfl,
  fun _ _ _ _ _ _ _ _ => er_go rfl rfl,
  fun _ _ _ _ _ _ _ _ => er_go rfl rfl,
  fun _ _ _ _ _ _ _ _ _ _ => er_go rfl rfl,
  fun _ _ _ _ _ _ _ _ => er_go rfl rfl,
  fun _ _ _ _ _ _ _ _ _ _ => er_go rfl rfl,
  fun _ _ _ _ _ _ _ _ => er_go rfl rfl,
  fun _ _ _ _ _ _ _ _ _ _ => er_go rfl rfl,
  fun _ _ _ _ _ _ _ _ _ => er_go rfl rfl,
  fun _ _ _ _ _ _ _ _ => er_go rfl rfl,
  fun _ _ _ _ _ _ _ _ _ => er_if_ne rfl,
  fun _ _ _ _ _ _ _ _ => er_go rfl rfl,
  fun _ _ _ _ _ _ _ => er_go rfl rfl,
  fun _ _ _ _ _ _ _ _ _ => er_get1 rfl,
  fun _ _ _ _ _ _ _ _ => er_go rfl rfl,
  fun _ _ _ _ _ _ _ _ _ _ => er_iald rfl,
  fun _ _ _ _ _ _ _ _ _ => er_go rfl rfl,
  fun _ _ _ _ _ _ _ _ => er_go rfl rfl,
  fun _ _ _ _ _ _ _ _ => er_go rfl rfl,
  fun _ _ _ _ _ _ _ _ => er_go rfl rfl,
  fun _ _ _ _ _ _ _ _ _ _ => er_ic_ne rfl,
  fun _ _ _ _ _ _ _ _ => er_go rfl rfl,
  fun _ _ _ _ _ _ _ => er_go rfl rfl,
  fun _ _ _ _ _ _ _ _ _ => er_get1 rfl,
  fun _ _ _ _ _ _ _ _ => er_go rfl rfl,
  fun _ _ _ _ _ _ _ _ _ _ => er_iald rfl,
  fun _ _ _ _ _ _ _ _ _ => er_go rfl rfl,
  fun _ _ _ _ _ _ _ _ => er_go rfl rfl,
  fun _ _ _ _ _ _ _ _ => er_go rfl rfl,
  fun _ _ _ _ _ _ _ _ => er_go rfl rfl,
  fun _ _ _ _ _ _ _ _ _ _ => er_ic_ne rfl,
  fun _ _ _ _ _ _ _ _ => er_go rfl rfl,
  fun _ _ _ _ _ _ _ => er_go rfl rfl,
  fun _ _ _ _ _ _ _ _ _ => er_get1 rfl,
  fun _ _ _ _ _ _ _ _ => er_go rfl rfl,
  fun _ _ _ _ _ _ _ _ _ _ => er_iald rfl,
  fun _ _ _ _ _ _ _ _ _ => er_go rfl rfl,
  fun _ _ _ _ _ _ _ _ => er_go rfl rfl,
  fun _ _ _ _ _ _ _ _ => er_go rfl rfl,
  fun _ _ _ _ _ _ _ _ => er_go rfl rfl,
  fun _ _ _ _ _ _ _ _ _ _ => er_ic_ne rfl,
  fun _ _ _ _ _ _ _ _ => er_go rfl rfl,
  fun _ _ _ _ _ _ _ => er_go rfl rfl,
  fun _ _ _ _ _ _ _ _ _ => er_get1 rfl,
  fun _ _ _ _ _ _ _ _ => er_go rfl rfl,
  fun _ _ _ _ _ _ _ _ _ _ => er_iald rfl,
  fun _ _ _ _ _ _ _ _ _ => er_go rfl rfl,
  fun _ _ _ _ _ _ _ _ => er_go rfl rfl,
  fun _ _ _ _ _ _ _ _ => er_go rfl rfl,
  fun _ _ _ _ _ _ _ _ => er_ret rfl rfl⟩
set_option maxRecDepth 100000 in
/-- TwoStepOutputsModel.last(III)J -/
theorem r103 : (∀ (P : Nat × Nat) (l1 : Option Value) (l2 : Option Value) (l3 : Option Value) (l4 : Option Value) (a0 : Nat) (s : List Value) (h : am_H), am_E P 103 0 [some (.ref a0), l1, l2, l3, l4] s h = am_E P 103 1 [some (.ref a0), l1, l2, l3, l4] (.ref a0 :: s) h) ∧
  (∀ (P : Nat × Nat) (l1 : Option Value) (l2 : Option Value) (l3 : Option Value) (l4 : Option Value) (s : List Value) (h : am_H), am_E P 103 0 [some .null, l1, l2, l3, l4] s h = am_E P 103 1 [some .null, l1, l2, l3, l4] (.null :: s) h) ∧
  (∀ (P : Nat × Nat) (l0 : Option Value) (l2 : Option Value) (l3 : Option Value) (l4 : Option Value) (x0 : Int32) (s : List Value) (h : am_H), am_E P 103 1 [l0, some (.int x0), l2, l3, l4] s h = am_E P 103 2 [l0, some (.int x0), l2, l3, l4] (.int x0 :: s) h) ∧
  (∀ (P : Nat × Nat) (l0 : Option Value) (l1 : Option Value) (l2 : Option Value) (l3 : Option Value) (l4 : Option Value) (a0 : Nat) (x0 : Int32) (h : am_H), am_E P 103 2 [l0, l1, l2, l3, l4] [.int x0, .ref a0] h = if am_cls h a0 = some 9 then (am_E P 75 0 [some (.ref a0), some (.int x0)] [] h).bind (fun q => am_E P 103 5 [l0, l1, l2, l3, l4] (q.1.toList ++ []) q.2) else none) ∧
  (∀ (P : Nat × Nat) (l0 : Option Value) (l1 : Option Value) (l2 : Option Value) (l3 : Option Value) (l4 : Option Value) (x0 : Int32) (s : List Value) (h : am_H), am_E P 103 5 [l0, l1, l2, l3, l4] (.int x0 :: s) h = if x0 = 0 then am_E P 103 8 [l0, l1, l2, l3, l4] s h else am_E P 103 44 [l0, l1, l2, l3, l4] s h) ∧
  (∀ (P : Nat × Nat) (l1 : Option Value) (l2 : Option Value) (l3 : Option Value) (l4 : Option Value) (a0 : Nat) (s : List Value) (h : am_H), am_E P 103 8 [some (.ref a0), l1, l2, l3, l4] s h = am_E P 103 9 [some (.ref a0), l1, l2, l3, l4] (.ref a0 :: s) h) ∧
  (∀ (P : Nat × Nat) (l1 : Option Value) (l2 : Option Value) (l3 : Option Value) (l4 : Option Value) (s : List Value) (h : am_H), am_E P 103 8 [some .null, l1, l2, l3, l4] s h = am_E P 103 9 [some .null, l1, l2, l3, l4] (.null :: s) h) ∧
  (∀ (P : Nat × Nat) (l0 : Option Value) (l1 : Option Value) (l2 : Option Value) (l3 : Option Value) (l4 : Option Value) (a0 : Nat) (s : List Value) (h : am_H), am_E P 103 9 [l0, l1, l2, l3, l4] (.ref a0 :: s) h = (am_g1 h a0 9 1).bind (fun v => am_E P 103 12 [l0, l1, l2, l3, l4] (v :: s) h)) ∧
  (∀ (P : Nat × Nat) (l0 : Option Value) (l2 : Option Value) (l3 : Option Value) (l4 : Option Value) (x0 : Int32) (s : List Value) (h : am_H), am_E P 103 12 [l0, some (.int x0), l2, l3, l4] s h = am_E P 103 13 [l0, some (.int x0), l2, l3, l4] (.int x0 :: s) h) ∧
  (∀ (P : Nat × Nat) (l0 : Option Value) (l1 : Option Value) (l2 : Option Value) (l3 : Option Value) (l4 : Option Value) (x0 : Int32) (a0 : Nat) (s : List Value) (h : am_H), am_E P 103 13 [l0, l1, l2, l3, l4] (.int x0 :: .ref a0 :: s) h = (am_iald h a0 x0).bind (fun v => am_E P 103 14 [l0, l1, l2, l3, l4] (.int v :: s) h)) ∧
  (∀ (P : Nat × Nat) (l0 : Option Value) (l1 : Option Value) (l2 : Option Value) (l3 : Option Value) (l4 : Option Value) (s : List Value) (h : am_H), am_E P 103 14 [l0, l1, l2, l3, l4] s h = am_E P 103 15 [l0, l1, l2, l3, l4] (.int 1 :: s) h) ∧
  (∀ (P : Nat × Nat) (l0 : Option Value) (l1 : Option Value) (l2 : Option Value) (l3 : Option Value) (l4 : Option Value) (x0 : Int32) (x1 : Int32) (s : List Value) (h : am_H), am_E P 103 15 [l0, l1, l2, l3, l4] (.int x1 :: .int x0 :: s) h = if x0 = x1 then am_E P 103 18 [l0, l1, l2, l3, l4] s h else am_E P 103 44 [l0, l1, l2, l3, l4] s h) ∧
  (∀ (P : Nat × Nat) (l0 : Option Value) (l1 : Option Value) (l3 : Option Value) (l4 : Option Value) (x0 : Int32) (s : List Value) (h : am_H), am_E P 103 18 [l0, l1, some (.int x0), l3, l4] s h = am_E P 103 19 [l0, l1, some (.int x0), l3, l4] (.int x0 :: s) h) ∧
  (∀ (P : Nat × Nat) (l0 : Option Value) (l1 : Option Value) (l2 : Option Value) (l3 : Option Value) (l4 : Option Value) (s : List Value) (h : am_H), am_E P 103 19 [l0, l1, l2, l3, l4] s h = am_E P 103 20 [l0, l1, l2, l3, l4] (.int 0 :: s) h) ∧
  (∀ (P : Nat × Nat) (l0 : Option Value) (l1 : Option Value) (l2 : Option Value) (l3 : Option Value) (l4 : Option Value) (s : List Value) (h : am_H), am_E P 103 20 [l0, l1, l2, l3, l4] s h = am_E P 103 22 [l0, l1, l2, l3, l4] (.int 9 :: s) h) ∧
  (∀ (P : Nat × Nat) (l0 : Option Value) (l1 : Option Value) (l2 : Option Value) (l3 : Option Value) (l4 : Option Value) (x0 : Int32) (x1 : Int32) (x2 : Int32) (h : am_H), am_E P 103 22 [l0, l1, l2, l3, l4] [.int x2, .int x1, .int x0] h = (am_E P 74 0 [some (.int x0), some (.int x1), some (.int x2)] [] h).bind (fun q => am_E P 103 25 [l0, l1, l2, l3, l4] (q.1.toList ++ []) q.2)) ∧
  (∀ (P : Nat × Nat) (l0 : Option Value) (l1 : Option Value) (l2 : Option Value) (l3 : Option Value) (l4 : Option Value) (x0 : Int32) (s : List Value) (h : am_H), am_E P 103 25 [l0, l1, l2, l3, l4] (.int x0 :: s) h = if x0 = 0 then am_E P 103 28 [l0, l1, l2, l3, l4] s h else am_E P 103 44 [l0, l1, l2, l3, l4] s h) ∧
  (∀ (P : Nat × Nat) (l1 : Option Value) (l2 : Option Value) (l3 : Option Value) (l4 : Option Value) (a0 : Nat) (s : List Value) (h : am_H), am_E P 103 28 [some (.ref a0), l1, l2, l3, l4] s h = am_E P 103 29 [some (.ref a0), l1, l2, l3, l4] (.ref a0 :: s) h) ∧
  (∀ (P : Nat × Nat) (l1 : Option Value) (l2 : Option Value) (l3 : Option Value) (l4 : Option Value) (s : List Value) (h : am_H), am_E P 103 28 [some .null, l1, l2, l3, l4] s h = am_E P 103 29 [some .null, l1, l2, l3, l4] (.null :: s) h) ∧
  (∀ (P : Nat × Nat) (l0 : Option Value) (l1 : Option Value) (l2 : Option Value) (l3 : Option Value) (l4 : Option Value) (a0 : Nat) (s : List Value) (h : am_H), am_E P 103 29 [l0, l1, l2, l3, l4] (.ref a0 :: s) h = (am_g1 h a0 9 19).bind (fun v => am_E P 103 32 [l0, l1, l2, l3, l4] (v :: s) h)) ∧
  (∀ (P : Nat × Nat) (l0 : Option Value) (l1 : Option Value) (l2 : Option Value) (l3 : Option Value) (l4 : Option Value) (s : List Value) (h : am_H), am_E P 103 32 [l0, l1, l2, l3, l4] s h = am_E P 103 34 [l0, l1, l2, l3, l4] (.int 10 :: s) h) ∧
  (∀ (P : Nat × Nat) (l0 : Option Value) (l2 : Option Value) (l3 : Option Value) (l4 : Option Value) (x0 : Int32) (s : List Value) (h : am_H), am_E P 103 34 [l0, some (.int x0), l2, l3, l4] s h = am_E P 103 35 [l0, some (.int x0), l2, l3, l4] (.int x0 :: s) h) ∧
  (∀ (P : Nat × Nat) (l0 : Option Value) (l1 : Option Value) (l2 : Option Value) (l3 : Option Value) (l4 : Option Value) (x0 : Int32) (x1 : Int32) (s : List Value) (h : am_H), am_E P 103 35 [l0, l1, l2, l3, l4] (.int x1 :: .int x0 :: s) h = am_E P 103 36 [l0, l1, l2, l3, l4] (.int (x0 * x1) :: s) h) ∧
  (∀ (P : Nat × Nat) (l0 : Option Value) (l1 : Option Value) (l3 : Option Value) (l4 : Option Value) (x0 : Int32) (s : List Value) (h : am_H), am_E P 103 36 [l0, l1, some (.int x0), l3, l4] s h = am_E P 103 37 [l0, l1, some (.int x0), l3, l4] (.int x0 :: s) h) ∧
  (∀ (P : Nat × Nat) (l0 : Option Value) (l1 : Option Value) (l2 : Option Value) (l3 : Option Value) (l4 : Option Value) (x0 : Int32) (x1 : Int32) (s : List Value) (h : am_H), am_E P 103 37 [l0, l1, l2, l3, l4] (.int x1 :: .int x0 :: s) h = am_E P 103 38 [l0, l1, l2, l3, l4] (.int (x0 + x1) :: s) h) ∧
  (∀ (P : Nat × Nat) (l0 : Option Value) (l1 : Option Value) (l2 : Option Value) (l3 : Option Value) (l4 : Option Value) (x0 : Int32) (a0 : Nat) (s : List Value) (h : am_H), am_E P 103 38 [l0, l1, l2, l3, l4] (.int x0 :: .ref a0 :: s) h = (am_iald h a0 x0).bind (fun v => am_E P 103 39 [l0, l1, l2, l3, l4] (.int v :: s) h)) ∧
  (∀ (P : Nat × Nat) (l0 : Option Value) (l1 : Option Value) (l2 : Option Value) (l3 : Option Value) (l4 : Option Value) (s : List Value) (h : am_H), am_E P 103 39 [l0, l1, l2, l3, l4] s h = am_E P 103 41 [l0, l1, l2, l3, l4] (.int (-6) :: s) h) ∧
  (∀ (P : Nat × Nat) (l0 : Option Value) (l1 : Option Value) (l2 : Option Value) (l3 : Option Value) (l4 : Option Value) (x0 : Int32) (x1 : Int32) (s : List Value) (h : am_H), am_E P 103 41 [l0, l1, l2, l3, l4] (.int x1 :: .int x0 :: s) h = if x0 = x1 then am_E P 103 44 [l0, l1, l2, l3, l4] s h else am_E P 103 48 [l0, l1, l2, l3, l4] s h) ∧
  (∀ (P : Nat × Nat) (l0 : Option Value) (l1 : Option Value) (l2 : Option Value) (l3 : Option Value) (l4 : Option Value) (s : List Value) (h : am_H), am_E P 103 44 [l0, l1, l2, l3, l4] s h = am_E P 103 47 [l0, l1, l2, l3, l4] (.long (-9223372036854775808) :: s) h) ∧
  (∀ (P : Nat × Nat) (l0 : Option Value) (l1 : Option Value) (l2 : Option Value) (l3 : Option Value) (l4 : Option Value) (j0 : Int64) (h : am_H), am_E P 103 47 [l0, l1, l2, l3, l4] [.long j0] h = some (some (.long j0), h)) ∧
  (∀ (P : Nat × Nat) (l0 : Option Value) (l1 : Option Value) (l2 : Option Value) (l3 : Option Value) (l4 : Option Value) (s : List Value) (h : am_H), am_E P 103 48 [l0, l1, l2, l3, l4] s h = am_E P 103 50 [l0, l1, l2, l3, l4] (.int 10 :: s) h) ∧
  (∀ (P : Nat × Nat) (l0 : Option Value) (l2 : Option Value) (l3 : Option Value) (l4 : Option Value) (x0 : Int32) (s : List Value) (h : am_H), am_E P 103 50 [l0, some (.int x0), l2, l3, l4] s h = am_E P 103 51 [l0, some (.int x0), l2, l3, l4] (.int x0 :: s) h) ∧
  (∀ (P : Nat × Nat) (l0 : Option Value) (l1 : Option Value) (l2 : Option Value) (l3 : Option Value) (l4 : Option Value) (x0 : Int32) (x1 : Int32) (s : List Value) (h : am_H), am_E P 103 51 [l0, l1, l2, l3, l4] (.int x1 :: .int x0 :: s) h = am_E P 103 52 [l0, l1, l2, l3, l4] (.int (x0 * x1) :: s) h) ∧
  (∀ (P : Nat × Nat) (l0 : Option Value) (l1 : Option Value) (l3 : Option Value) (l4 : Option Value) (x0 : Int32) (s : List Value) (h : am_H), am_E P 103 52 [l0, l1, some (.int x0), l3, l4] s h = am_E P 103 53 [l0, l1, some (.int x0), l3, l4] (.int x0 :: s) h) ∧
  (∀ (P : Nat × Nat) (l0 : Option Value) (l1 : Option Value) (l2 : Option Value) (l3 : Option Value) (l4 : Option Value) (x0 : Int32) (x1 : Int32) (s : List Value) (h : am_H), am_E P 103 53 [l0, l1, l2, l3, l4] (.int x1 :: .int x0 :: s) h = am_E P 103 54 [l0, l1, l2, l3, l4] (.int (x0 + x1) :: s) h) ∧
  (∀ (P : Nat × Nat) (l0 : Option Value) (l1 : Option Value) (l2 : Option Value) (l3 : Option Value) (l4 : Option Value) (x0 : Int32) (s : List Value) (h : am_H), am_E P 103 54 [l0, l1, l2, l3, l4] (.int x0 :: s) h = am_E P 103 56 [l0, l1, l2, l3, some (.int x0)] s h) ∧
  (∀ (P : Nat × Nat) (l0 : Option Value) (l1 : Option Value) (l2 : Option Value) (l4 : Option Value) (x0 : Int32) (s : List Value) (h : am_H), am_E P 103 56 [l0, l1, l2, some (.int x0), l4] s h = am_E P 103 57 [l0, l1, l2, some (.int x0), l4] (.int x0 :: s) h) ∧
  (∀ (P : Nat × Nat) (l0 : Option Value) (l1 : Option Value) (l2 : Option Value) (l3 : Option Value) (l4 : Option Value) (x0 : Int32) (s : List Value) (h : am_H), am_E P 103 57 [l0, l1, l2, l3, l4] (.int x0 :: s) h = if x0 = 0 then am_E P 103 60 [l0, l1, l2, l3, l4] s h else am_E P 103 71 [l0, l1, l2, l3, l4] s h) ∧
  (∀ (P : Nat × Nat) (l1 : Option Value) (l2 : Option Value) (l3 : Option Value) (l4 : Option Value) (a0 : Nat) (s : List Value) (h : am_H), am_E P 103 60 [some (.ref a0), l1, l2, l3, l4] s h = am_E P 103 61 [some (.ref a0), l1, l2, l3, l4] (.ref a0 :: s) h) ∧
  (∀ (P : Nat × Nat) (l1 : Option Value) (l2 : Option Value) (l3 : Option Value) (l4 : Option Value) (s : List Value) (h : am_H), am_E P 103 60 [some .null, l1, l2, l3, l4] s h = am_E P 103 61 [some .null, l1, l2, l3, l4] (.null :: s) h) ∧
  (∀ (P : Nat × Nat) (l0 : Option Value) (l1 : Option Value) (l2 : Option Value) (l3 : Option Value) (l4 : Option Value) (a0 : Nat) (s : List Value) (h : am_H), am_E P 103 61 [l0, l1, l2, l3, l4] (.ref a0 :: s) h = (am_g1 h a0 9 21).bind (fun v => am_E P 103 64 [l0, l1, l2, l3, l4] (v :: s) h)) ∧
  (∀ (P : Nat × Nat) (l0 : Option Value) (l1 : Option Value) (l2 : Option Value) (l3 : Option Value) (x0 : Int32) (s : List Value) (h : am_H), am_E P 103 64 [l0, l1, l2, l3, some (.int x0)] s h = am_E P 103 66 [l0, l1, l2, l3, some (.int x0)] (.int x0 :: s) h) ∧
  (∀ (P : Nat × Nat) (l0 : Option Value) (l1 : Option Value) (l2 : Option Value) (l3 : Option Value) (l4 : Option Value) (x0 : Int32) (a0 : Nat) (s : List Value) (h : am_H), am_E P 103 66 [l0, l1, l2, l3, l4] (.int x0 :: .ref a0 :: s) h = (am_iald h a0 x0).bind (fun v => am_E P 103 67 [l0, l1, l2, l3, l4] (.int v :: s) h)) ∧
  (∀ (P : Nat × Nat) (l0 : Option Value) (l1 : Option Value) (l2 : Option Value) (l3 : Option Value) (l4 : Option Value) (x0 : Int32) (s : List Value) (h : am_H), am_E P 103 67 [l0, l1, l2, l3, l4] (.int x0 :: s) h = am_E P 103 68 [l0, l1, l2, l3, l4] (.long x0.toInt64 :: s) h) ∧
  (∀ (P : Nat × Nat) (l0 : Option Value) (l1 : Option Value) (l2 : Option Value) (l3 : Option Value) (l4 : Option Value) (s : List Value) (h : am_H), am_E P 103 68 [l0, l1, l2, l3, l4] s h = am_E P 103 106 [l0, l1, l2, l3, l4] s h) ∧
  (∀ (P : Nat × Nat) (l0 : Option Value) (l1 : Option Value) (l2 : Option Value) (l4 : Option Value) (x0 : Int32) (s : List Value) (h : am_H), am_E P 103 71 [l0, l1, l2, some (.int x0), l4] s h = am_E P 103 72 [l0, l1, l2, some (.int x0), l4] (.int x0 :: s) h) ∧
  (∀ (P : Nat × Nat) (l0 : Option Value) (l1 : Option Value) (l2 : Option Value) (l3 : Option Value) (l4 : Option Value) (s : List Value) (h : am_H), am_E P 103 72 [l0, l1, l2, l3, l4] s h = am_E P 103 73 [l0, l1, l2, l3, l4] (.int 1 :: s) h) ∧
  (∀ (P : Nat × Nat) (l0 : Option Value) (l1 : Option Value) (l2 : Option Value) (l3 : Option Value) (l4 : Option Value) (x0 : Int32) (x1 : Int32) (s : List Value) (h : am_H), am_E P 103 73 [l0, l1, l2, l3, l4] (.int x1 :: .int x0 :: s) h = if x0 = x1 then am_E P 103 76 [l0, l1, l2, l3, l4] s h else am_E P 103 87 [l0, l1, l2, l3, l4] s h) ∧
  (∀ (P : Nat × Nat) (l1 : Option Value) (l2 : Option Value) (l3 : Option Value) (l4 : Option Value) (a0 : Nat) (s : List Value) (h : am_H), am_E P 103 76 [some (.ref a0), l1, l2, l3, l4] s h = am_E P 103 77 [some (.ref a0), l1, l2, l3, l4] (.ref a0 :: s) h) ∧
  (∀ (P : Nat × Nat) (l1 : Option Value) (l2 : Option Value) (l3 : Option Value) (l4 : Option Value) (s : List Value) (h : am_H), am_E P 103 76 [some .null, l1, l2, l3, l4] s h = am_E P 103 77 [some .null, l1, l2, l3, l4] (.null :: s) h) ∧
  (∀ (P : Nat × Nat) (l0 : Option Value) (l1 : Option Value) (l2 : Option Value) (l3 : Option Value) (l4 : Option Value) (a0 : Nat) (s : List Value) (h : am_H), am_E P 103 77 [l0, l1, l2, l3, l4] (.ref a0 :: s) h = (am_g1 h a0 9 19).bind (fun v => am_E P 103 80 [l0, l1, l2, l3, l4] (v :: s) h)) ∧
  (∀ (P : Nat × Nat) (l0 : Option Value) (l1 : Option Value) (l2 : Option Value) (l3 : Option Value) (x0 : Int32) (s : List Value) (h : am_H), am_E P 103 80 [l0, l1, l2, l3, some (.int x0)] s h = am_E P 103 82 [l0, l1, l2, l3, some (.int x0)] (.int x0 :: s) h) ∧
  (∀ (P : Nat × Nat) (l0 : Option Value) (l1 : Option Value) (l2 : Option Value) (l3 : Option Value) (l4 : Option Value) (x0 : Int32) (a0 : Nat) (s : List Value) (h : am_H), am_E P 103 82 [l0, l1, l2, l3, l4] (.int x0 :: .ref a0 :: s) h = (am_iald h a0 x0).bind (fun v => am_E P 103 83 [l0, l1, l2, l3, l4] (.int v :: s) h)) ∧
  (∀ (P : Nat × Nat) (l0 : Option Value) (l1 : Option Value) (l2 : Option Value) (l3 : Option Value) (l4 : Option Value) (x0 : Int32) (s : List Value) (h : am_H), am_E P 103 83 [l0, l1, l2, l3, l4] (.int x0 :: s) h = am_E P 103 84 [l0, l1, l2, l3, l4] (.long x0.toInt64 :: s) h) ∧
  (∀ (P : Nat × Nat) (l0 : Option Value) (l1 : Option Value) (l2 : Option Value) (l3 : Option Value) (l4 : Option Value) (s : List Value) (h : am_H), am_E P 103 84 [l0, l1, l2, l3, l4] s h = am_E P 103 106 [l0, l1, l2, l3, l4] s h) ∧
  (∀ (P : Nat × Nat) (l0 : Option Value) (l1 : Option Value) (l2 : Option Value) (l4 : Option Value) (x0 : Int32) (s : List Value) (h : am_H), am_E P 103 87 [l0, l1, l2, some (.int x0), l4] s h = am_E P 103 88 [l0, l1, l2, some (.int x0), l4] (.int x0 :: s) h) ∧
  (∀ (P : Nat × Nat) (l0 : Option Value) (l1 : Option Value) (l2 : Option Value) (l3 : Option Value) (l4 : Option Value) (s : List Value) (h : am_H), am_E P 103 88 [l0, l1, l2, l3, l4] s h = am_E P 103 89 [l0, l1, l2, l3, l4] (.int 2 :: s) h) ∧
  (∀ (P : Nat × Nat) (l0 : Option Value) (l1 : Option Value) (l2 : Option Value) (l3 : Option Value) (l4 : Option Value) (x0 : Int32) (x1 : Int32) (s : List Value) (h : am_H), am_E P 103 89 [l0, l1, l2, l3, l4] (.int x1 :: .int x0 :: s) h = if x0 = x1 then am_E P 103 92 [l0, l1, l2, l3, l4] s h else am_E P 103 103 [l0, l1, l2, l3, l4] s h) ∧
  (∀ (P : Nat × Nat) (l1 : Option Value) (l2 : Option Value) (l3 : Option Value) (l4 : Option Value) (a0 : Nat) (s : List Value) (h : am_H), am_E P 103 92 [some (.ref a0), l1, l2, l3, l4] s h = am_E P 103 93 [some (.ref a0), l1, l2, l3, l4] (.ref a0 :: s) h) ∧
  (∀ (P : Nat × Nat) (l1 : Option Value) (l2 : Option Value) (l3 : Option Value) (l4 : Option Value) (s : List Value) (h : am_H), am_E P 103 92 [some .null, l1, l2, l3, l4] s h = am_E P 103 93 [some .null, l1, l2, l3, l4] (.null :: s) h) ∧
  (∀ (P : Nat × Nat) (l0 : Option Value) (l1 : Option Value) (l2 : Option Value) (l3 : Option Value) (l4 : Option Value) (a0 : Nat) (s : List Value) (h : am_H), am_E P 103 93 [l0, l1, l2, l3, l4] (.ref a0 :: s) h = (am_g1 h a0 9 20).bind (fun v => am_E P 103 96 [l0, l1, l2, l3, l4] (v :: s) h)) ∧
  (∀ (P : Nat × Nat) (l0 : Option Value) (l1 : Option Value) (l2 : Option Value) (l3 : Option Value) (x0 : Int32) (s : List Value) (h : am_H), am_E P 103 96 [l0, l1, l2, l3, some (.int x0)] s h = am_E P 103 98 [l0, l1, l2, l3, some (.int x0)] (.int x0 :: s) h) ∧
  (∀ (P : Nat × Nat) (l0 : Option Value) (l1 : Option Value) (l2 : Option Value) (l3 : Option Value) (l4 : Option Value) (x0 : Int32) (a0 : Nat) (s : List Value) (h : am_H), am_E P 103 98 [l0, l1, l2, l3, l4] (.int x0 :: .ref a0 :: s) h = (am_iald h a0 x0).bind (fun v => am_E P 103 99 [l0, l1, l2, l3, l4] (.int v :: s) h)) ∧
  (∀ (P : Nat × Nat) (l0 : Option Value) (l1 : Option Value) (l2 : Option Value) (l3 : Option Value) (l4 : Option Value) (x0 : Int32) (s : List Value) (h : am_H), am_E P 103 99 [l0, l1, l2, l3, l4] (.int x0 :: s) h = am_E P 103 100 [l0, l1, l2, l3, l4] (.long x0.toInt64 :: s) h) ∧
  (∀ (P : Nat × Nat) (l0 : Option Value) (l1 : Option Value) (l2 : Option Value) (l3 : Option Value) (l4 : Option Value) (s : List Value) (h : am_H), am_E P 103 100 [l0, l1, l2, l3, l4] s h = am_E P 103 106 [l0, l1, l2, l3, l4] s h) ∧
  (∀ (P : Nat × Nat) (l0 : Option Value) (l1 : Option Value) (l2 : Option Value) (l3 : Option Value) (l4 : Option Value) (s : List Value) (h : am_H), am_E P 103 103 [l0, l1, l2, l3, l4] s h = am_E P 103 106 [l0, l1, l2, l3, l4] (.long (-9223372036854775808) :: s) h) ∧
  (∀ (P : Nat × Nat) (l0 : Option Value) (l1 : Option Value) (l2 : Option Value) (l3 : Option Value) (l4 : Option Value) (j0 : Int64) (h : am_H), am_E P 103 106 [l0, l1, l2, l3, l4] [.long j0] h = some (some (.long j0), h)) :=
  ⟨fun _ _ _ _ _ _ _ _ => er_go rfl rfl,
  fun _ _ _ _ _ _ _ => er_go rfl rfl,
  fun _ _ _ _ _ _ _ _ => er_go rfl rfl,
  fun _ _ _ _ _ _ _ _ _ => er_callV rfl rfl rfl rfl,
  fun _ _ _ _ _ _ _ _ _ => er_if_ne rfl,
  fun _ _ _ _ _ _ _ _ => er_go rfl rfl,
  fun _ _ _ _ _ _ _ => er_go rfl rfl,
  fun _ _ _ _ _ _ _ _ _ => er_get1 rfl,
  fun _ _ _ _ _ _ _ _ => er_go rfl rfl,
  fun _ _ _ _ _ _ _ _ _ _ => er_iald rfl,
  fun _ _ _ _ _ _ _ _ => er_go rfl rfl,
  fun _ _ _ _ _ _ _ _ _ _ => er_ic_ne rfl,
  fun _ _ _ _ _ _ _ _ => er_go rfl rfl,
  fun _ _ _ _ _ _ _ _ => er_go rfl rfl,
  fun _ _ _ _ _ _ _ _ => er_go rfl rfl,
  fun _ _ _ _ _ _ _ _ _ _ => er_callS rfl rfl rfl,
  fun _ _ _ _ _ _ _ _ _ => er_if_ne rfl,
  fun _ _ _ _ _ _ _ _ => er_go rfl rfl,
  fun _ _ _ _ _ _ _ => er_go rfl rfl,
  fun _ _ _ _ _ _ _ _ _ => er_get1 rfl,
  fun _ _ _ _ _ _ _ _ => er_go rfl rfl,
  fun _ _ _ _ _ _ _ _ => er_go rfl rfl,
  fun _ _ _ _ _ _ _ _ _ _ => er_go rfl rfl,
  fun _ _ _ _ _ _ _ _ => er_go rfl rfl,
  fun _ _ _ _ _ _ _ _ _ _ => er_go rfl rfl,
  fun _ _ _ _ _ _ _ _ _ _ => er_iald rfl,
  fun _ _ _ _ _ _ _ _ => er_go rfl rfl,
  fun _ _ _ _ _ _ _ _ _ _ => er_ic_ne rfl,
  fun _ _ _ _ _ _ _ _ => er_go rfl rfl,
  fun _ _ _ _ _ _ _ _ => er_ret rfl rfl,
  fun _ _ _ _ _ _ _ _ => er_go rfl rfl,
  fun _ _ _ _ _ _ _ _ => er_go rfl rfl,
  fun _ _ _ _ _ _ _ _ _ _ => er_go rfl rfl,
  fun _ _ _ _ _ _ _ _ => er_go rfl rfl,
  fun _ _ _ _ _ _ _ _ _ _ => er_go rfl rfl,
  fun _ _ _ _ _ _ _ _ _ => er_go rfl rfl,
  fun _ _ _ _ _ _ _ _ => er_go rfl rfl,
  fun _ _ _ _ _ _ _ _ _ => er_if_ne rfl,
  fun _ _ _ _ _ _ _ _ => er_go rfl rfl,
  fun _ _ _ _ _ _ _ => er_go rfl rfl,
  fun _ _ _ _ _ _ _ _ _ => er_get1 rfl,
  fun _ _ _ _ _ _ _ _ => er_go rfl rfl,
  fun _ _ _ _ _ _ _ _ _ _ => er_iald rfl,
  fun _ _ _ _ _ _ _ _ _ => er_go rfl rfl,
  fun _ _ _ _ _ _ _ _ => er_go rfl rfl,
  fun _ _ _ _ _ _ _ _ => er_go rfl rfl,
  fun _ _ _ _ _ _ _ _ => er_go rfl rfl,
  fun _ _ _ _ _ _ _ _ _ _ => er_ic_ne rfl,
  fun _ _ _ _ _ _ _ _ => er_go rfl rfl,
  fun _ _ _ _ _ _ _ => er_go rfl rfl,
  fun _ _ _ _ _ _ _ _ _ => er_get1 rfl,
  fun _ _ _ _ _ _ _ _ => er_go rfl rfl,
  fun _ _ _ _ _ _ _ _ _ _ => er_iald rfl,
  fun _ _ _ _ _ _ _ _ _ => er_go rfl rfl,
  fun _ _ _ _ _ _ _ _ => er_go rfl rfl,
  fun _ _ _ _ _ _ _ _ => er_go rfl rfl,
  fun _ _ _ _ _ _ _ _ => er_go rfl rfl,
  fun _ _ _ _ _ _ _ _ _ _ => er_ic_ne rfl,
  fun _ _ _ _ _ _ _ _ => er_go rfl rfl,
  fun _ _ _ _ _ _ _ => er_go rfl rfl,
  fun _ _ _ _ _ _ _ _ _ => er_get1 rfl,
  fun _ _ _ _ _ _ _ _ => er_go rfl rfl,
  fun _ _ _ _ _ _ _ _ _ _ => er_iald rfl,
  fun _ _ _ _ _ _ _ _ _ => er_go rfl rfl,
  fun _ _ _ _ _ _ _ _ => er_go rfl rfl,
  fun _ _ _ _ _ _ _ _ => er_go rfl rfl,
  fun _ _ _ _ _ _ _ _ => er_ret rfl rfl⟩
set_option maxRecDepth 100000 in
/-- TwoStepOutputsModel.reader(I)I -/
theorem r104 : (∀ (P : Nat × Nat) (l1 : Option Value) (a0 : Nat) (s : List Value) (h : am_H), am_E P 104 0 [some (.ref a0), l1] s h = am_E P 104 1 [some (.ref a0), l1] (.ref a0 :: s) h) ∧
  (∀ (P : Nat × Nat) (l1 : Option Value) (s : List Value) (h : am_H), am_E P 104 0 [some .null, l1] s h = am_E P 104 1 [some .null, l1] (.null :: s) h) ∧
  (∀ (P : Nat × Nat) (l0 : Option Value) (x0 : Int32) (s : List Value) (h : am_H), am_E P 104 1 [l0, some (.int x0)] s h = am_E P 104 2 [l0, some (.int x0)] (.int x0 :: s) h) ∧
  (∀ (P : Nat × Nat) (l0 : Option Value) (l1 : Option Value) (a0 : Nat) (x0 : Int32) (h : am_H), am_E P 104 2 [l0, l1] [.int x0, .ref a0] h = if am_cls h a0 = some 9 then (am_E P 75 0 [some (.ref a0), some (.int x0)] [] h).bind (fun q => am_E P 104 5 [l0, l1] (q.1.toList ++ []) q.2) else none) ∧
  (∀ (P : Nat × Nat) (l0 : Option Value) (l1 : Option Value) (x0 : Int32) (s : List Value) (h : am_H), am_E P 104 5 [l0, l1] (.int x0 :: s) h = if x0 = 0 then am_E P 104 10 [l0, l1] s h else am_E P 104 8 [l0, l1] s h) ∧
  (∀ (P : Nat × Nat) (l0 : Option Value) (l1 : Option Value) (s : List Value) (h : am_H), am_E P 104 8 [l0, l1] s h = am_E P 104 9 [l0, l1] (.int (-1) :: s) h) ∧
  (∀ (P : Nat × Nat) (l0 : Option Value) (l1 : Option Value) (x0 : Int32) (h : am_H), am_E P 104 9 [l0, l1] [.int x0] h = some (some (.int x0), h)) ∧
  (∀ (P : Nat × Nat) (l1 : Option Value) (a0 : Nat) (s : List Value) (h : am_H), am_E P 104 10 [some (.ref a0), l1] s h = am_E P 104 11 [some (.ref a0), l1] (.ref a0 :: s) h) ∧
  (∀ (P : Nat × Nat) (l1 : Option Value) (s : List Value) (h : am_H), am_E P 104 10 [some .null, l1] s h = am_E P 104 11 [some .null, l1] (.null :: s) h) ∧
  (∀ (P : Nat × Nat) (l0 : Option Value) (l1 : Option Value) (a0 : Nat) (s : List Value) (h : am_H), am_E P 104 11 [l0, l1] (.ref a0 :: s) h = (am_g1 h a0 9 1).bind (fun v => am_E P 104 14 [l0, l1] (v :: s) h)) ∧
  (∀ (P : Nat × Nat) (l0 : Option Value) (x0 : Int32) (s : List Value) (h : am_H), am_E P 104 14 [l0, some (.int x0)] s h = am_E P 104 15 [l0, some (.int x0)] (.int x0 :: s) h) ∧
  (∀ (P : Nat × Nat) (l0 : Option Value) (l1 : Option Value) (x0 : Int32) (a0 : Nat) (s : List Value) (h : am_H), am_E P 104 15 [l0, l1] (.int x0 :: .ref a0 :: s) h = (am_iald h a0 x0).bind (fun v => am_E P 104 16 [l0, l1] (.int v :: s) h)) ∧
  (∀ (P : Nat × Nat) (l0 : Option Value) (l1 : Option Value) (s : List Value) (h : am_H), am_E P 104 16 [l0, l1] s h = am_E P 104 17 [l0, l1] (.int 1 :: s) h) ∧
  (∀ (P : Nat × Nat) (l0 : Option Value) (l1 : Option Value) (x0 : Int32) (x1 : Int32) (s : List Value) (h : am_H), am_E P 104 17 [l0, l1] (.int x1 :: .int x0 :: s) h = if x0 = x1 then am_E P 104 20 [l0, l1] s h else am_E P 104 23 [l0, l1] s h) ∧
  (∀ (P : Nat × Nat) (l0 : Option Value) (l1 : Option Value) (s : List Value) (h : am_H), am_E P 104 20 [l0, l1] s h = am_E P 104 22 [l0, l1] (.int (-3) :: s) h) ∧
  (∀ (P : Nat × Nat) (l0 : Option Value) (l1 : Option Value) (x0 : Int32) (h : am_H), am_E P 104 22 [l0, l1] [.int x0] h = some (some (.int x0), h)) ∧
  (∀ (P : Nat × Nat) (l1 : Option Value) (a0 : Nat) (s : List Value) (h : am_H), am_E P 104 23 [some (.ref a0), l1] s h = am_E P 104 24 [some (.ref a0), l1] (.ref a0 :: s) h) ∧
  (∀ (P : Nat × Nat) (l1 : Option Value) (s : List Value) (h : am_H), am_E P 104 23 [some .null, l1] s h = am_E P 104 24 [some .null, l1] (.null :: s) h) ∧
  (∀ (P : Nat × Nat) (l0 : Option Value) (l1 : Option Value) (a0 : Nat) (s : List Value) (h : am_H), am_E P 104 24 [l0, l1] (.ref a0 :: s) h = (am_g1 h a0 9 22).bind (fun v => am_E P 104 27 [l0, l1] (v :: s) h)) ∧
  (∀ (P : Nat × Nat) (l0 : Option Value) (l1 : Option Value) (s : List Value) (h : am_H), am_E P 104 27 [l0, l1] s h = am_E P 104 28 [l0, l1] (.int 4 :: s) h) ∧
  (∀ (P : Nat × Nat) (l0 : Option Value) (l1 : Option Value) (x0 : Int32) (x1 : Int32) (s : List Value) (h : am_H), am_E P 104 28 [l0, l1] (.int x1 :: .int x0 :: s) h = if x0 = x1 then am_E P 104 31 [l0, l1] s h else am_E P 104 34 [l0, l1] s h) ∧
  (∀ (P : Nat × Nat) (l0 : Option Value) (l1 : Option Value) (s : List Value) (h : am_H), am_E P 104 31 [l0, l1] s h = am_E P 104 33 [l0, l1] (.int (-4) :: s) h) ∧
  (∀ (P : Nat × Nat) (l0 : Option Value) (l1 : Option Value) (x0 : Int32) (h : am_H), am_E P 104 33 [l0, l1] [.int x0] h = some (some (.int x0), h)) ∧
  (∀ (P : Nat × Nat) (l1 : Option Value) (a0 : Nat) (s : List Value) (h : am_H), am_E P 104 34 [some (.ref a0), l1] s h = am_E P 104 35 [some (.ref a0), l1] (.ref a0 :: s) h) ∧
  (∀ (P : Nat × Nat) (l1 : Option Value) (s : List Value) (h : am_H), am_E P 104 34 [some .null, l1] s h = am_E P 104 35 [some .null, l1] (.null :: s) h) ∧
  (∀ (P : Nat × Nat) (l0 : Option Value) (l1 : Option Value) (a0 : Nat) (s : List Value) (h : am_H), am_E P 104 35 [l0, l1] (.ref a0 :: s) h = (am_g1 h a0 9 23).bind (fun v => am_E P 104 38 [l0, l1] (v :: s) h)) ∧
  (∀ (P : Nat × Nat) (l1 : Option Value) (a0 : Nat) (s : List Value) (h : am_H), am_E P 104 38 [some (.ref a0), l1] s h = am_E P 104 39 [some (.ref a0), l1] (.ref a0 :: s) h) ∧
  (∀ (P : Nat × Nat) (l1 : Option Value) (s : List Value) (h : am_H), am_E P 104 38 [some .null, l1] s h = am_E P 104 39 [some .null, l1] (.null :: s) h) ∧
  (∀ (P : Nat × Nat) (l0 : Option Value) (l1 : Option Value) (a0 : Nat) (s : List Value) (h : am_H), am_E P 104 39 [l0, l1] (.ref a0 :: s) h = (am_g1 h a0 9 22).bind (fun v => am_E P 104 42 [l0, l1] (v :: s) h)) ∧
  (∀ (P : Nat × Nat) (l0 : Option Value) (x0 : Int32) (s : List Value) (h : am_H), am_E P 104 42 [l0, some (.int x0)] s h = am_E P 104 43 [l0, some (.int x0)] (.int x0 :: s) h) ∧
  (∀ (P : Nat × Nat) (l0 : Option Value) (l1 : Option Value) (x0 : Int32) (x1 : Int32) (a0 : Nat) (s : List Value) (h : am_H), am_E P 104 43 [l0, l1] (.int x1 :: .int x0 :: .ref a0 :: s) h = (am_iast h a0 x0 x1).bind (fun h => am_E P 104 44 [l0, l1] s h)) ∧
  (∀ (P : Nat × Nat) (l1 : Option Value) (a0 : Nat) (s : List Value) (h : am_H), am_E P 104 44 [some (.ref a0), l1] s h = am_E P 104 45 [some (.ref a0), l1] (.ref a0 :: s) h) ∧
  (∀ (P : Nat × Nat) (l1 : Option Value) (s : List Value) (h : am_H), am_E P 104 44 [some .null, l1] s h = am_E P 104 45 [some .null, l1] (.null :: s) h) ∧
  (∀ (P : Nat × Nat) (l0 : Option Value) (l1 : Option Value) (a0 : Nat) (s : List Value) (h : am_H), am_E P 104 45 [l0, l1] (.ref a0 :: s) h = (am_g1 h a0 9 24).bind (fun v => am_E P 104 48 [l0, l1] (v :: s) h)) ∧
  (∀ (P : Nat × Nat) (l1 : Option Value) (a0 : Nat) (s : List Value) (h : am_H), am_E P 104 48 [some (.ref a0), l1] s h = am_E P 104 49 [some (.ref a0), l1] (.ref a0 :: s) h) ∧
  (∀ (P : Nat × Nat) (l1 : Option Value) (s : List Value) (h : am_H), am_E P 104 48 [some .null, l1] s h = am_E P 104 49 [some .null, l1] (.null :: s) h) ∧
  (∀ (P : Nat × Nat) (l0 : Option Value) (l1 : Option Value) (a0 : Nat) (s : List Value) (h : am_H), am_E P 104 49 [l0, l1] (.ref a0 :: s) h = (am_g1 h a0 9 22).bind (fun v => am_E P 104 52 [l0, l1] (v :: s) h)) ∧
  (∀ (P : Nat × Nat) (l0 : Option Value) (l1 : Option Value) (s : List Value) (h : am_H), am_E P 104 52 [l0, l1] s h = am_E P 104 53 [l0, l1] (.int 0 :: s) h) ∧
  (∀ (P : Nat × Nat) (l0 : Option Value) (l1 : Option Value) (x0 : Int32) (x1 : Int32) (a0 : Nat) (s : List Value) (h : am_H), am_E P 104 53 [l0, l1] (.int x1 :: .int x0 :: .ref a0 :: s) h = (am_iast h a0 x0 x1).bind (fun h => am_E P 104 54 [l0, l1] s h)) ∧
  (∀ (P : Nat × Nat) (l1 : Option Value) (a0 : Nat) (s : List Value) (h : am_H), am_E P 104 54 [some (.ref a0), l1] s h = am_E P 104 55 [some (.ref a0), l1] (.ref a0 :: s) h) ∧
  (∀ (P : Nat × Nat) (l1 : Option Value) (s : List Value) (h : am_H), am_E P 104 54 [some .null, l1] s h = am_E P 104 55 [some .null, l1] (.null :: s) h) ∧
  (∀ (P : Nat × Nat) (l0 : Option Value) (l1 : Option Value) (a0 : Nat) (s : List Value) (h : am_H), am_E P 104 55 [l0, l1] (.ref a0 :: s) h = am_E P 104 56 [l0, l1] (.ref a0 :: .ref a0 :: s) h) ∧
  (∀ (P : Nat × Nat) (l0 : Option Value) (l1 : Option Value) (a0 : Nat) (s : List Value) (h : am_H), am_E P 104 56 [l0, l1] (.ref a0 :: s) h = (am_g1 h a0 9 22).bind (fun v => am_E P 104 59 [l0, l1] (v :: s) h)) ∧
  (∀ (P : Nat × Nat) (l0 : Option Value) (l1 : Option Value) (s : List Value) (h : am_H), am_E P 104 59 [l0, l1] s h = am_E P 104 60 [l0, l1] (.int 1 :: s) h) ∧
  (∀ (P : Nat × Nat) (l0 : Option Value) (l1 : Option Value) (x0 : Int32) (x1 : Int32) (s : List Value) (h : am_H), am_E P 104 60 [l0, l1] (.int x1 :: .int x0 :: s) h = am_E P 104 61 [l0, l1] (.int (x0 + x1) :: s) h) ∧
  (∀ (P : Nat × Nat) (l0 : Option Value) (l1 : Option Value) (a0 : Nat) (x0 : Int32) (s : List Value) (h : am_H), am_E P 104 61 [l0, l1] (.int x0 :: .ref a0 :: s) h = (am_p1 h a0 9 22 (.int x0)).bind (fun h => am_E P 104 64 [l0, l1] s h)) ∧
  (∀ (P : Nat × Nat) (l1 : Option Value) (a0 : Nat) (s : List Value) (h : am_H), am_E P 104 64 [some (.ref a0), l1] s h = am_E P 104 65 [some (.ref a0), l1] (.ref a0 :: s) h) ∧
  (∀ (P : Nat × Nat) (l1 : Option Value) (s : List Value) (h : am_H), am_E P 104 64 [some .null, l1] s h = am_E P 104 65 [some .null, l1] (.null :: s) h) ∧
  (∀ (P : Nat × Nat) (l0 : Option Value) (l1 : Option Value) (a0 : Nat) (s : List Value) (h : am_H), am_E P 104 65 [l0, l1] (.ref a0 :: s) h = (am_g1 h a0 9 22).bind (fun v => am_E P 104 68 [l0, l1] (v :: s) h)) ∧
  (∀ (P : Nat × Nat) (l0 : Option Value) (l1 : Option Value) (s : List Value) (h : am_H), am_E P 104 68 [l0, l1] s h = am_E P 104 69 [l0, l1] (.int 1 :: s) h) ∧
  (∀ (P : Nat × Nat) (l0 : Option Value) (l1 : Option Value) (x0 : Int32) (x1 : Int32) (s : List Value) (h : am_H), am_E P 104 69 [l0, l1] (.int x1 :: .int x0 :: s) h = am_E P 104 70 [l0, l1] (.int (x0 - x1) :: s) h) ∧
  (∀ (P : Nat × Nat) (l0 : Option Value) (l1 : Option Value) (x0 : Int32) (h : am_H), am_E P 104 70 [l0, l1] [.int x0] h = some (some (.int x0), h)) :=
  ⟨fun _ _ _ _ _ => er_go rfl rfl,
  fun _ _ _ _ => er_go rfl rfl,
  fun _ _ _ _ _ => er_go rfl rfl,
  fun _ _ _ _ _ _ => er_callV rfl rfl rfl rfl,
  fun _ _ _ _ _ _ => er_if_eq rfl,
  fun _ _ _ _ _ => er_go rfl rfl,
  fun _ _ _ _ _ => er_ret rfl rfl,
  fun _ _ _ _ _ => er_go rfl rfl,
  fun _ _ _ _ => er_go rfl rfl,
  fun _ _ _ _ _ _ => er_get1 rfl,
  fun _ _ _ _ _ => er_go rfl rfl,
  fun _ _ _ _ _ _ _ => er_iald rfl,
  fun _ _ _ _ _ => er_go rfl rfl,
  fun _ _ _ _ _ _ _ => er_ic_ne rfl,
  fun _ _ _ _ _ => er_go rfl rfl,
  fun _ _ _ _ _ => er_ret rfl rfl,
  fun _ _ _ _ _ => er_go rfl rfl,
  fun _ _ _ _ => er_go rfl rfl,
  fun _ _ _ _ _ _ => er_get1 rfl,
  fun _ _ _ _ _ => er_go rfl rfl,
  fun _ _ _ _ _ _ _ => er_ic_ne rfl,
  fun _ _ _ _ _ => er_go rfl rfl,
  fun _ _ _ _ _ => er_ret rfl rfl,
  fun _ _ _ _ _ => er_go rfl rfl,
  fun _ _ _ _ => er_go rfl rfl,
  fun _ _ _ _ _ _ => er_get1 rfl,
  fun _ _ _ _ _ => er_go rfl rfl,
  fun _ _ _ _ => er_go rfl rfl,
  fun _ _ _ _ _ _ => er_get1 rfl,
  fun _ _ _ _ _ => er_go rfl rfl,
  fun _ _ _ _ _ _ _ _ => er_iast rfl,
  fun _ _ _ _ _ => er_go rfl rfl,
  fun _ _ _ _ => er_go rfl rfl,
  fun _ _ _ _ _ _ => er_get1 rfl,
  fun _ _ _ _ _ => er_go rfl rfl,
  fun _ _ _ _ => er_go rfl rfl,
  fun _ _ _ _ _ _ => er_get1 rfl,
  fun _ _ _ _ _ => er_go rfl rfl,
  fun _ _ _ _ _ _ _ _ => er_iast rfl,
  fun _ _ _ _ _ => er_go rfl rfl,
  fun _ _ _ _ => er_go rfl rfl,
  fun _ _ _ _ _ _ => er_go rfl rfl,
  fun _ _ _ _ _ _ => er_get1 rfl,
  fun _ _ _ _ _ => er_go rfl rfl,
  fun _ _ _ _ _ _ _ => er_go rfl rfl,
  fun _ _ _ _ _ _ _ => er_put1 rfl rfl,
  fun _ _ _ _ _ => er_go rfl rfl,
  fun _ _ _ _ => er_go rfl rfl,
  fun _ _ _ _ _ _ => er_get1 rfl,
  fun _ _ _ _ _ => er_go rfl rfl,
  fun _ _ _ _ _ _ _ => er_go rfl rfl,
  fun _ _ _ _ _ => er_ret rfl rfl⟩
set_option maxRecDepth 100000 in
/-- TwoStepOutputsModel.read(II)I -/
theorem r105 : (∀ (P : Nat × Nat) (l0 : Option Value) (l2 : Option Value) (l3 : Option Value) (x0 : Int32) (s : List Value) (h : am_H), am_E P 105 0 [l0, some (.int x0), l2, l3] s h = am_E P 105 1 [l0, some (.int x0), l2, l3] (.int x0 :: s) h) ∧
  (∀ (P : Nat × Nat) (l0 : Option Value) (l1 : Option Value) (l2 : Option Value) (l3 : Option Value) (s : List Value) (h : am_H), am_E P 105 1 [l0, l1, l2, l3] s h = am_E P 105 2 [l0, l1, l2, l3] (.int 0 :: s) h) ∧
  (∀ (P : Nat × Nat) (l1 : Option Value) (l2 : Option Value) (l3 : Option Value) (a0 : Nat) (s : List Value) (h : am_H), am_E P 105 2 [some (.ref a0), l1, l2, l3] s h = am_E P 105 3 [some (.ref a0), l1, l2, l3] (.ref a0 :: s) h) ∧
  (∀ (P : Nat × Nat) (l1 : Option Value) (l2 : Option Value) (l3 : Option Value) (s : List Value) (h : am_H), am_E P 105 2 [some .null, l1, l2, l3] s h = am_E P 105 3 [some .null, l1, l2, l3] (.null :: s) h) ∧
  (∀ (P : Nat × Nat) (l0 : Option Value) (l1 : Option Value) (l2 : Option Value) (l3 : Option Value) (a0 : Nat) (s : List Value) (h : am_H), am_E P 105 3 [l0, l1, l2, l3] (.ref a0 :: s) h = (am_g1 h a0 9 22).bind (fun v => am_E P 105 6 [l0, l1, l2, l3] (v :: s) h)) ∧
  (∀ (P : Nat × Nat) (l0 : Option Value) (l1 : Option Value) (l2 : Option Value) (l3 : Option Value) (s : List Value) (h : am_H), am_E P 105 6 [l0, l1, l2, l3] s h = am_E P 105 7 [l0, l1, l2, l3] (.int 1 :: s) h) ∧
  (∀ (P : Nat × Nat) (l0 : Option Value) (l1 : Option Value) (l2 : Option Value) (l3 : Option Value) (x0 : Int32) (x1 : Int32) (s : List Value) (h : am_H), am_E P 105 7 [l0, l1, l2, l3] (.int x1 :: .int x0 :: s) h = am_E P 105 8 [l0, l1, l2, l3] (.int (x0 - x1) :: s) h) ∧
  (∀ (P : Nat × Nat) (l0 : Option Value) (l1 : Option Value) (l2 : Option Value) (l3 : Option Value) (x0 : Int32) (x1 : Int32) (x2 : Int32) (h : am_H), am_E P 105 8 [l0, l1, l2, l3] [.int x2, .int x1, .int x0] h = (am_E P 74 0 [some (.int x0), some (.int x1), some (.int x2)] [] h).bind (fun q => am_E P 105 11 [l0, l1, l2, l3] (q.1.toList ++ []) q.2)) ∧
  (∀ (P : Nat × Nat) (l0 : Option Value) (l1 : Option Value) (l2 : Option Value) (l3 : Option Value) (x0 : Int32) (s : List Value) (h : am_H), am_E P 105 11 [l0, l1, l2, l3] (.int x0 :: s) h = if x0 = 0 then am_E P 105 16 [l0, l1, l2, l3] s h else am_E P 105 14 [l0, l1, l2, l3] s h) ∧
  (∀ (P : Nat × Nat) (l0 : Option Value) (l1 : Option Value) (l2 : Option Value) (l3 : Option Value) (s : List Value) (h : am_H), am_E P 105 14 [l0, l1, l2, l3] s h = am_E P 105 15 [l0, l1, l2, l3] (.int (-1) :: s) h) ∧
  (∀ (P : Nat × Nat) (l0 : Option Value) (l1 : Option Value) (l2 : Option Value) (l3 : Option Value) (x0 : Int32) (h : am_H), am_E P 105 15 [l0, l1, l2, l3] [.int x0] h = some (some (.int x0), h)) ∧
  (∀ (P : Nat × Nat) (l0 : Option Value) (l1 : Option Value) (l3 : Option Value) (x0 : Int32) (s : List Value) (h : am_H), am_E P 105 16 [l0, l1, some (.int x0), l3] s h = am_E P 105 17 [l0, l1, some (.int x0), l3] (.int x0 :: s) h) ∧
  (∀ (P : Nat × Nat) (l0 : Option Value) (l1 : Option Value) (l2 : Option Value) (l3 : Option Value) (s : List Value) (h : am_H), am_E P 105 17 [l0, l1, l2, l3] s h = am_E P 105 18 [l0, l1, l2, l3] (.int 1 :: s) h) ∧
  (∀ (P : Nat × Nat) (l0 : Option Value) (l1 : Option Value) (l2 : Option Value) (l3 : Option Value) (s : List Value) (h : am_H), am_E P 105 18 [l0, l1, l2, l3] s h = am_E P 105 20 [l0, l1, l2, l3] (.int 100 :: s) h) ∧
  (∀ (P : Nat × Nat) (l0 : Option Value) (l1 : Option Value) (l2 : Option Value) (l3 : Option Value) (x0 : Int32) (x1 : Int32) (x2 : Int32) (h : am_H), am_E P 105 20 [l0, l1, l2, l3] [.int x2, .int x1, .int x0] h = (am_E P 74 0 [some (.int x0), some (.int x1), some (.int x2)] [] h).bind (fun q => am_E P 105 23 [l0, l1, l2, l3] (q.1.toList ++ []) q.2)) ∧
  (∀ (P : Nat × Nat) (l0 : Option Value) (l1 : Option Value) (l2 : Option Value) (l3 : Option Value) (x0 : Int32) (s : List Value) (h : am_H), am_E P 105 23 [l0, l1, l2, l3] (.int x0 :: s) h = if x0 = 0 then am_E P 105 29 [l0, l1, l2, l3] s h else am_E P 105 26 [l0, l1, l2, l3] s h) ∧
  (∀ (P : Nat × Nat) (l0 : Option Value) (l1 : Option Value) (l2 : Option Value) (l3 : Option Value) (s : List Value) (h : am_H), am_E P 105 26 [l0, l1, l2, l3] s h = am_E P 105 28 [l0, l1, l2, l3] (.int (-2) :: s) h) ∧
  (∀ (P : Nat × Nat) (l0 : Option Value) (l1 : Option Value) (l2 : Option Value) (l3 : Option Value) (x0 : Int32) (h : am_H), am_E P 105 28 [l0, l1, l2, l3] [.int x0] h = some (some (.int x0), h)) ∧
  (∀ (P : Nat × Nat) (l0 : Option Value) (l1 : Option Value) (l3 : Option Value) (x0 : Int32) (s : List Value) (h : am_H), am_E P 105 29 [l0, l1, some (.int x0), l3] s h = am_E P 105 30 [l0, l1, some (.int x0), l3] (.int x0 :: s) h) ∧
  (∀ (P : Nat × Nat) (l1 : Option Value) (l2 : Option Value) (l3 : Option Value) (a0 : Nat) (s : List Value) (h : am_H), am_E P 105 30 [some (.ref a0), l1, l2, l3] s h = am_E P 105 31 [some (.ref a0), l1, l2, l3] (.ref a0 :: s) h) ∧
  (∀ (P : Nat × Nat) (l1 : Option Value) (l2 : Option Value) (l3 : Option Value) (s : List Value) (h : am_H), am_E P 105 30 [some .null, l1, l2, l3] s h = am_E P 105 31 [some .null, l1, l2, l3] (.null :: s) h) ∧
  (∀ (P : Nat × Nat) (l0 : Option Value) (l1 : Option Value) (l2 : Option Value) (l3 : Option Value) (a0 : Nat) (s : List Value) (h : am_H), am_E P 105 31 [l0, l1, l2, l3] (.ref a0 :: s) h = (am_g1 h a0 9 14).bind (fun v => am_E P 105 34 [l0, l1, l2, l3] (v :: s) h)) ∧
  (∀ (P : Nat × Nat) (l1 : Option Value) (l2 : Option Value) (l3 : Option Value) (a0 : Nat) (s : List Value) (h : am_H), am_E P 105 34 [some (.ref a0), l1, l2, l3] s h = am_E P 105 35 [some (.ref a0), l1, l2, l3] (.ref a0 :: s) h) ∧
  (∀ (P : Nat × Nat) (l1 : Option Value) (l2 : Option Value) (l3 : Option Value) (s : List Value) (h : am_H), am_E P 105 34 [some .null, l1, l2, l3] s h = am_E P 105 35 [some .null, l1, l2, l3] (.null :: s) h) ∧
  (∀ (P : Nat × Nat) (l0 : Option Value) (l1 : Option Value) (l2 : Option Value) (l3 : Option Value) (a0 : Nat) (s : List Value) (h : am_H), am_E P 105 35 [l0, l1, l2, l3] (.ref a0 :: s) h = (am_g1 h a0 9 23).bind (fun v => am_E P 105 38 [l0, l1, l2, l3] (v :: s) h)) ∧
  (∀ (P : Nat × Nat) (l0 : Option Value) (l2 : Option Value) (l3 : Option Value) (x0 : Int32) (s : List Value) (h : am_H), am_E P 105 38 [l0, some (.int x0), l2, l3] s h = am_E P 105 39 [l0, some (.int x0), l2, l3] (.int x0 :: s) h) ∧
  (∀ (P : Nat × Nat) (l0 : Option Value) (l1 : Option Value) (l2 : Option Value) (l3 : Option Value) (x0 : Int32) (a0 : Nat) (s : List Value) (h : am_H), am_E P 105 39 [l0, l1, l2, l3] (.int x0 :: .ref a0 :: s) h = (am_iald h a0 x0).bind (fun v => am_E P 105 40 [l0, l1, l2, l3] (.int v :: s) h)) ∧
  (∀ (P : Nat × Nat) (l0 : Option Value) (l1 : Option Value) (l2 : Option Value) (l3 : Option Value) (x0 : Int32) (a0 : Nat) (s : List Value) (h : am_H), am_E P 105 40 [l0, l1, l2, l3] (.int x0 :: .ref a0 :: s) h = (am_iald h a0 x0).bind (fun v => am_E P 105 41 [l0, l1, l2, l3] (.int v :: s) h)) ∧
  (∀ (P : Nat × Nat) (l1 : Option Value) (l2 : Option Value) (l3 : Option Value) (a0 : Nat) (s : List Value) (h : am_H), am_E P 105 41 [some (.ref a0), l1, l2, l3] s h = am_E P 105 42 [some (.ref a0), l1, l2, l3] (.ref a0 :: s) h) ∧
  (∀ (P : Nat × Nat) (l1 : Option Value) (l2 : Option Value) (l3 : Option Value) (s : List Value) (h : am_H), am_E P 105 41 [some .null, l1, l2, l3] s h = am_E P 105 42 [some .null, l1, l2, l3] (.null :: s) h) ∧
  (∀ (P : Nat × Nat) (l0 : Option Value) (l1 : Option Value) (l2 : Option Value) (l3 : Option Value) (a0 : Nat) (s : List Value) (h : am_H), am_E P 105 42 [l0, l1, l2, l3] (.ref a0 :: s) h = (am_g1 h a0 9 24).bind (fun v => am_E P 105 45 [l0, l1, l2, l3] (v :: s) h)) ∧
  (∀ (P : Nat × Nat) (l0 : Option Value) (l2 : Option Value) (l3 : Option Value) (x0 : Int32) (s : List Value) (h : am_H), am_E P 105 45 [l0, some (.int x0), l2, l3] s h = am_E P 105 46 [l0, some (.int x0), l2, l3] (.int x0 :: s) h) ∧
  (∀ (P : Nat × Nat) (l0 : Option Value) (l1 : Option Value) (l2 : Option Value) (l3 : Option Value) (x0 : Int32) (a0 : Nat) (s : List Value) (h : am_H), am_E P 105 46 [l0, l1, l2, l3] (.int x0 :: .ref a0 :: s) h = (am_iald h a0 x0).bind (fun v => am_E P 105 47 [l0, l1, l2, l3] (.int v :: s) h)) ∧
  (∀ (P : Nat × Nat) (l0 : Option Value) (l1 : Option Value) (l2 : Option Value) (l3 : Option Value) (x0 : Int32) (x1 : Int32) (s : List Value) (h : am_H), am_E P 105 47 [l0, l1, l2, l3] (.int x1 :: .int x0 :: s) h = am_E P 105 48 [l0, l1, l2, l3] (.int (x0 - x1) :: s) h) ∧
  (∀ (P : Nat × Nat) (l0 : Option Value) (l1 : Option Value) (l2 : Option Value) (l3 : Option Value) (x0 : Int32) (x1 : Int32) (h : am_H), am_E P 105 48 [l0, l1, l2, l3] [.int x1, .int x0] h = (am_E P 73 0 [some (.int x0), some (.int x1)] [] h).bind (fun q => am_E P 105 51 [l0, l1, l2, l3] (q.1.toList ++ []) q.2)) ∧
  (∀ (P : Nat × Nat) (l0 : Option Value) (l1 : Option Value) (l2 : Option Value) (l3 : Option Value) (x0 : Int32) (s : List Value) (h : am_H), am_E P 105 51 [l0, l1, l2, l3] (.int x0 :: s) h = am_E P 105 52 [l0, l1, l2, some (.int x0)] s h) ∧
  (∀ (P : Nat × Nat) (l1 : Option Value) (l2 : Option Value) (l3 : Option Value) (a0 : Nat) (s : List Value) (h : am_H), am_E P 105 52 [some (.ref a0), l1, l2, l3] s h = am_E P 105 53 [some (.ref a0), l1, l2, l3] (.ref a0 :: s) h) ∧
  (∀ (P : Nat × Nat) (l1 : Option Value) (l2 : Option Value) (l3 : Option Value) (s : List Value) (h : am_H), am_E P 105 52 [some .null, l1, l2, l3] s h = am_E P 105 53 [some .null, l1, l2, l3] (.null :: s) h) ∧
  (∀ (P : Nat × Nat) (l0 : Option Value) (l1 : Option Value) (l2 : Option Value) (l3 : Option Value) (a0 : Nat) (s : List Value) (h : am_H), am_E P 105 53 [l0, l1, l2, l3] (.ref a0 :: s) h = (am_g1 h a0 9 24).bind (fun v => am_E P 105 56 [l0, l1, l2, l3] (v :: s) h)) ∧
  (∀ (P : Nat × Nat) (l0 : Option Value) (l2 : Option Value) (l3 : Option Value) (x0 : Int32) (s : List Value) (h : am_H), am_E P 105 56 [l0, some (.int x0), l2, l3] s h = am_E P 105 57 [l0, some (.int x0), l2, l3] (.int x0 :: s) h) ∧
  (∀ (P : Nat × Nat) (l0 : Option Value) (l1 : Option Value) (l2 : Option Value) (l3 : Option Value) (x0 : Int32) (a0 : Nat) (s : List Value) (h : am_H), am_E P 105 57 [l0, l1, l2, l3] (.int x0 :: .ref a0 :: s) h = am_E P 105 58 [l0, l1, l2, l3] (.int x0 :: .ref a0 :: .int x0 :: .ref a0 :: s) h) ∧
  (∀ (P : Nat × Nat) (l0 : Option Value) (l1 : Option Value) (l2 : Option Value) (l3 : Option Value) (x0 : Int32) (a0 : Nat) (s : List Value) (h : am_H), am_E P 105 58 [l0, l1, l2, l3] (.int x0 :: .ref a0 :: s) h = (am_iald h a0 x0).bind (fun v => am_E P 105 59 [l0, l1, l2, l3] (.int v :: s) h)) ∧
  (∀ (P : Nat × Nat) (l0 : Option Value) (l1 : Option Value) (l2 : Option Value) (x0 : Int32) (s : List Value) (h : am_H), am_E P 105 59 [l0, l1, l2, some (.int x0)] s h = am_E P 105 60 [l0, l1, l2, some (.int x0)] (.int x0 :: s) h) ∧
  (∀ (P : Nat × Nat) (l0 : Option Value) (l1 : Option Value) (l2 : Option Value) (l3 : Option Value) (x0 : Int32) (x1 : Int32) (s : List Value) (h : am_H), am_E P 105 60 [l0, l1, l2, l3] (.int x1 :: .int x0 :: s) h = am_E P 105 61 [l0, l1, l2, l3] (.int (x0 + x1) :: s) h) ∧
  (∀ (P : Nat × Nat) (l0 : Option Value) (l1 : Option Value) (l2 : Option Value) (l3 : Option Value) (x0 : Int32) (x1 : Int32) (a0 : Nat) (s : List Value) (h : am_H), am_E P 105 61 [l0, l1, l2, l3] (.int x1 :: .int x0 :: .ref a0 :: s) h = (am_iast h a0 x0 x1).bind (fun h => am_E P 105 62 [l0, l1, l2, l3] s h)) ∧
  (∀ (P : Nat × Nat) (l0 : Option Value) (l1 : Option Value) (l2 : Option Value) (x0 : Int32) (s : List Value) (h : am_H), am_E P 105 62 [l0, l1, l2, some (.int x0)] s h = am_E P 105 63 [l0, l1, l2, some (.int x0)] (.int x0 :: s) h) ∧
  (∀ (P : Nat × Nat) (l0 : Option Value) (l1 : Option Value) (l2 : Option Value) (l3 : Option Value) (x0 : Int32) (h : am_H), am_E P 105 63 [l0, l1, l2, l3] [.int x0] h = some (some (.int x0), h)) :=
  ⟨fun _ _ _ _ _ _ _ => er_go rfl rfl,
  fun _ _ _ _ _ _ _ => er_go rfl rfl,
  fun _ _ _ _ _ _ _ => er_go rfl rfl,
  fun _ _ _ _ _ _ => er_go rfl rfl,
  fun _ _ _ _ _ _ _ _ => er_get1 rfl,
  fun _ _ _ _ _ _ _ => er_go rfl rfl,
  fun _ _ _ _ _ _ _ _ _ => er_go rfl rfl,
  fun _ _ _ _ _ _ _ _ _ => er_callS rfl rfl rfl,
  fun _ _ _ _ _ _ _ _ => er_if_eq rfl,
  fun _ _ _ _ _ _ _ => er_go rfl rfl,
  fun _ _ _ _ _ _ _ => er_ret rfl rfl,
  fun _ _ _ _ _ _ _ => er_go rfl rfl,
  fun _ _ _ _ _ _ _ => er_go rfl rfl,
  fun _ _ _ _ _ _ _ => er_go rfl rfl,
  fun _ _ _ _ _ _ _ _ _ => er_callS rfl rfl rfl,
  fun _ _ _ _ _ _ _ _ => er_if_eq rfl,
  fun _ _ _ _ _ _ _ => er_go rfl rfl,
  fun _ _ _ _ _ _ _ => er_ret rfl rfl,
  fun _ _ _ _ _ _ _ => er_go rfl rfl,
  fun _ _ _ _ _ _ _ => er_go rfl rfl,
  fun _ _ _ _ _ _ => er_go rfl rfl,
  fun _ _ _ _ _ _ _ _ => er_get1 rfl,
  fun _ _ _ _ _ _ _ => er_go rfl rfl,
  fun _ _ _ _ _ _ => er_go rfl rfl,
  fun _ _ _ _ _ _ _ _ => er_get1 rfl,
  fun _ _ _ _ _ _ _ => er_go rfl rfl,
  fun _ _ _ _ _ _ _ _ _ => er_iald rfl,
  fun _ _ _ _ _ _ _ _ _ => er_iald rfl,
  fun _ _ _ _ _ _ _ => er_go rfl rfl,
  fun _ _ _ _ _ _ => er_go rfl rfl,
  fun _ _ _ _ _ _ _ _ => er_get1 rfl,
  fun _ _ _ _ _ _ _ => er_go rfl rfl,
  fun _ _ _ _ _ _ _ _ _ => er_iald rfl,
  fun _ _ _ _ _ _ _ _ _ => er_go rfl rfl,
  fun _ _ _ _ _ _ _ _ => er_callS rfl rfl rfl,
  fun _ _ _ _ _ _ _ _ => er_go rfl rfl,
  fun _ _ _ _ _ _ _ => er_go rfl rfl,
  fun _ _ _ _ _ _ => er_go rfl rfl,
  fun _ _ _ _ _ _ _ _ => er_get1 rfl,
  fun _ _ _ _ _ _ _ => er_go rfl rfl,
  fun _ _ _ _ _ _ _ _ _ => er_go rfl rfl,
  fun _ _ _ _ _ _ _ _ _ => er_iald rfl,
  fun _ _ _ _ _ _ _ => er_go rfl rfl,
  fun _ _ _ _ _ _ _ _ _ => er_go rfl rfl,
  fun _ _ _ _ _ _ _ _ _ _ => er_iast rfl,
  fun _ _ _ _ _ _ _ => er_go rfl rfl,
  fun _ _ _ _ _ _ _ => er_ret rfl rfl⟩
set_option maxRecDepth 100000 in
/-- TwoStepOutputsModel.seen(II)I -/
theorem r106 : (∀ (P : Nat × Nat) (l0 : Option Value) (l2 : Option Value) (l3 : Option Value) (l4 : Option Value) (x0 : Int32) (s : List Value) (h : am_H), am_E P 106 0 [l0, some (.int x0), l2, l3, l4] s h = am_E P 106 1 [l0, some (.int x0), l2, l3, l4] (.int x0 :: s) h) ∧
  (∀ (P : Nat × Nat) (l0 : Option Value) (l1 : Option Value) (l2 : Option Value) (l3 : Option Value) (l4 : Option Value) (s : List Value) (h : am_H), am_E P 106 1 [l0, l1, l2, l3, l4] s h = am_E P 106 2 [l0, l1, l2, l3, l4] (.int 0 :: s) h) ∧
  (∀ (P : Nat × Nat) (l1 : Option Value) (l2 : Option Value) (l3 : Option Value) (l4 : Option Value) (a0 : Nat) (s : List Value) (h : am_H), am_E P 106 2 [some (.ref a0), l1, l2, l3, l4] s h = am_E P 106 3 [some (.ref a0), l1, l2, l3, l4] (.ref a0 :: s) h) ∧
  (∀ (P : Nat × Nat) (l1 : Option Value) (l2 : Option Value) (l3 : Option Value) (l4 : Option Value) (s : List Value) (h : am_H), am_E P 106 2 [some .null, l1, l2, l3, l4] s h = am_E P 106 3 [some .null, l1, l2, l3, l4] (.null :: s) h) ∧
  (∀ (P : Nat × Nat) (l0 : Option Value) (l1 : Option Value) (l2 : Option Value) (l3 : Option Value) (l4 : Option Value) (a0 : Nat) (s : List Value) (h : am_H), am_E P 106 3 [l0, l1, l2, l3, l4] (.ref a0 :: s) h = (am_g1 h a0 9 22).bind (fun v => am_E P 106 6 [l0, l1, l2, l3, l4] (v :: s) h)) ∧
  (∀ (P : Nat × Nat) (l0 : Option Value) (l1 : Option Value) (l2 : Option Value) (l3 : Option Value) (l4 : Option Value) (s : List Value) (h : am_H), am_E P 106 6 [l0, l1, l2, l3, l4] s h = am_E P 106 7 [l0, l1, l2, l3, l4] (.int 1 :: s) h) ∧
  (∀ (P : Nat × Nat) (l0 : Option Value) (l1 : Option Value) (l2 : Option Value) (l3 : Option Value) (l4 : Option Value) (x0 : Int32) (x1 : Int32) (s : List Value) (h : am_H), am_E P 106 7 [l0, l1, l2, l3, l4] (.int x1 :: .int x0 :: s) h = am_E P 106 8 [l0, l1, l2, l3, l4] (.int (x0 - x1) :: s) h) ∧
  (∀ (P : Nat × Nat) (l0 : Option Value) (l1 : Option Value) (l2 : Option Value) (l3 : Option Value) (l4 : Option Value) (x0 : Int32) (x1 : Int32) (x2 : Int32) (h : am_H), am_E P 106 8 [l0, l1, l2, l3, l4] [.int x2, .int x1, .int x0] h = (am_E P 74 0 [some (.int x0), some (.int x1), some (.int x2)] [] h).bind (fun q => am_E P 106 11 [l0, l1, l2, l3, l4] (q.1.toList ++ []) q.2)) ∧
  (∀ (P : Nat × Nat) (l0 : Option Value) (l1 : Option Value) (l2 : Option Value) (l3 : Option Value) (l4 : Option Value) (x0 : Int32) (s : List Value) (h : am_H), am_E P 106 11 [l0, l1, l2, l3, l4] (.int x0 :: s) h = if x0 = 0 then am_E P 106 16 [l0, l1, l2, l3, l4] s h else am_E P 106 14 [l0, l1, l2, l3, l4] s h) ∧
  (∀ (P : Nat × Nat) (l0 : Option Value) (l1 : Option Value) (l2 : Option Value) (l3 : Option Value) (l4 : Option Value) (s : List Value) (h : am_H), am_E P 106 14 [l0, l1, l2, l3, l4] s h = am_E P 106 15 [l0, l1, l2, l3, l4] (.int (-1) :: s) h) ∧
  (∀ (P : Nat × Nat) (l0 : Option Value) (l1 : Option Value) (l2 : Option Value) (l3 : Option Value) (l4 : Option Value) (x0 : Int32) (h : am_H), am_E P 106 15 [l0, l1, l2, l3, l4] [.int x0] h = some (some (.int x0), h)) ∧
  (∀ (P : Nat × Nat) (l0 : Option Value) (l1 : Option Value) (l3 : Option Value) (l4 : Option Value) (x0 : Int32) (s : List Value) (h : am_H), am_E P 106 16 [l0, l1, some (.int x0), l3, l4] s h = am_E P 106 17 [l0, l1, some (.int x0), l3, l4] (.int x0 :: s) h) ∧
  (∀ (P : Nat × Nat) (l0 : Option Value) (l1 : Option Value) (l2 : Option Value) (l3 : Option Value) (l4 : Option Value) (s : List Value) (h : am_H), am_E P 106 17 [l0, l1, l2, l3, l4] s h = am_E P 106 19 [l0, l1, l2, l3, l4] (.int (-6) :: s) h) ∧
  (∀ (P : Nat × Nat) (l0 : Option Value) (l1 : Option Value) (l2 : Option Value) (l3 : Option Value) (l4 : Option Value) (x0 : Int32) (x1 : Int32) (s : List Value) (h : am_H), am_E P 106 19 [l0, l1, l2, l3, l4] (.int x1 :: .int x0 :: s) h = if x0 = x1 then am_E P 106 35 [l0, l1, l2, l3, l4] s h else am_E P 106 22 [l0, l1, l2, l3, l4] s h) ∧
  (∀ (P : Nat × Nat) (l0 : Option Value) (l1 : Option Value) (l3 : Option Value) (l4 : Option Value) (x0 : Int32) (s : List Value) (h : am_H), am_E P 106 22 [l0, l1, some (.int x0), l3, l4] s h = am_E P 106 23 [l0, l1, some (.int x0), l3, l4] (.int x0 :: s) h) ∧
  (∀ (P : Nat × Nat) (l0 : Option Value) (l1 : Option Value) (l2 : Option Value) (l3 : Option Value) (l4 : Option Value) (s : List Value) (h : am_H), am_E P 106 23 [l0, l1, l2, l3, l4] s h = am_E P 106 24 [l0, l1, l2, l3, l4] (.int 0 :: s) h) ∧
  (∀ (P : Nat × Nat) (l0 : Option Value) (l1 : Option Value) (l2 : Option Value) (l3 : Option Value) (l4 : Option Value) (s : List Value) (h : am_H), am_E P 106 24 [l0, l1, l2, l3, l4] s h = am_E P 106 26 [l0, l1, l2, l3, l4] (.int 9 :: s) h) ∧
  (∀ (P : Nat × Nat) (l0 : Option Value) (l1 : Option Value) (l2 : Option Value) (l3 : Option Value) (l4 : Option Value) (x0 : Int32) (x1 : Int32) (x2 : Int32) (h : am_H), am_E P 106 26 [l0, l1, l2, l3, l4] [.int x2, .int x1, .int x0] h = (am_E P 74 0 [some (.int x0), some (.int x1), some (.int x2)] [] h).bind (fun q => am_E P 106 29 [l0, l1, l2, l3, l4] (q.1.toList ++ []) q.2)) ∧
  (∀ (P : Nat × Nat) (l0 : Option Value) (l1 : Option Value) (l2 : Option Value) (l3 : Option Value) (l4 : Option Value) (x0 : Int32) (s : List Value) (h : am_H), am_E P 106 29 [l0, l1, l2, l3, l4] (.int x0 :: s) h = if x0 = 0 then am_E P 106 35 [l0, l1, l2, l3, l4] s h else am_E P 106 32 [l0, l1, l2, l3, l4] s h) ∧
  (∀ (P : Nat × Nat) (l0 : Option Value) (l1 : Option Value) (l2 : Option Value) (l3 : Option Value) (l4 : Option Value) (s : List Value) (h : am_H), am_E P 106 32 [l0, l1, l2, l3, l4] s h = am_E P 106 34 [l0, l1, l2, l3, l4] (.int (-2) :: s) h) ∧
  (∀ (P : Nat × Nat) (l0 : Option Value) (l1 : Option Value) (l2 : Option Value) (l3 : Option Value) (l4 : Option Value) (x0 : Int32) (h : am_H), am_E P 106 34 [l0, l1, l2, l3, l4] [.int x0] h = some (some (.int x0), h)) ∧
  (∀ (P : Nat × Nat) (l0 : Option Value) (l1 : Option Value) (l2 : Option Value) (l3 : Option Value) (l4 : Option Value) (s : List Value) (h : am_H), am_E P 106 35 [l0, l1, l2, l3, l4] s h = am_E P 106 36 [l0, l1, l2, l3, l4] (.int 0 :: s) h) ∧
  (∀ (P : Nat × Nat) (l0 : Option Value) (l1 : Option Value) (l2 : Option Value) (l3 : Option Value) (l4 : Option Value) (x0 : Int32) (s : List Value) (h : am_H), am_E P 106 36 [l0, l1, l2, l3, l4] (.int x0 :: s) h = am_E P 106 37 [l0, l1, l2, some (.int x0), l4] s h) ∧
  (∀ (P : Nat × Nat) (l0 : Option Value) (l1 : Option Value) (l2 : Option Value) (l3 : Option Value) (l4 : Option Value) (s : List Value) (h : am_H), am_E P 106 37 [l0, l1, l2, l3, l4] s h = am_E P 106 38 [l0, l1, l2, l3, l4] (.int 0 :: s) h) ∧
  (∀ (P : Nat × Nat) (l0 : Option Value) (l1 : Option Value) (l2 : Option Value) (l3 : Option Value) (l4 : Option Value) (x0 : Int32) (s : List Value) (h : am_H), am_E P 106 38 [l0, l1, l2, l3, l4] (.int x0 :: s) h = am_E P 106 40 [l0, l1, l2, l3, some (.int x0)] s h) ∧
  (∀ (P : Nat × Nat) (l1 : Option Value) (l2 : Option Value) (l3 : Option Value) (l4 : Option Value) (a0 : Nat) (s : List Value) (h : am_H), am_E P 106 42 [some (.ref a0), l1, l2, l3, l4] s h = am_E P 106 43 [some (.ref a0), l1, l2, l3, l4] (.ref a0 :: s) h) ∧
  (∀ (P : Nat × Nat) (l1 : Option Value) (l2 : Option Value) (l3 : Option Value) (l4 : Option Value) (s : List Value) (h : am_H), am_E P 106 42 [some .null, l1, l2, l3, l4] s h = am_E P 106 43 [some .null, l1, l2, l3, l4] (.null :: s) h) ∧
  (∀ (P : Nat × Nat) (l0 : Option Value) (l1 : Option Value) (l2 : Option Value) (l3 : Option Value) (l4 : Option Value) (a0 : Nat) (s : List Value) (h : am_H), am_E P 106 43 [l0, l1, l2, l3, l4] (.ref a0 :: s) h = (am_g1 h a0 9 24).bind (fun v => am_E P 106 46 [l0, l1, l2, l3, l4] (v :: s) h)) ∧
  (∀ (P : Nat × Nat) (l0 : Option Value) (l2 : Option Value) (l3 : Option Value) (l4 : Option Value) (x0 : Int32) (s : List Value) (h : am_H), am_E P 106 46 [l0, some (.int x0), l2, l3, l4] s h = am_E P 106 47 [l0, some (.int x0), l2, l3, l4] (.int x0 :: s) h) ∧
  (∀ (P : Nat × Nat) (l0 : Option Value) (l1 : Option Value) (l2 : Option Value) (l3 : Option Value) (l4 : Option Value) (x0 : Int32) (a0 : Nat) (s : List Value) (h : am_H), am_E P 106 47 [l0, l1, l2, l3, l4] (.int x0 :: .ref a0 :: s) h = (am_iald h a0 x0).bind (fun v => am_E P 106 48 [l0, l1, l2, l3, l4] (.int v :: s) h)) ∧
  (∀ (P : Nat × Nat) (l0 : Option Value) (l1 : Option Value) (l2 : Option Value) (l3 : Option Value) (l4 : Option Value) (x0 : Int32) (x1 : Int32) (s : List Value) (h : am_H), am_E P 106 48 [l0, l1, l2, l3, l4] (.int x1 :: .int x0 :: s) h = if x1 ≤ x0 then am_E P 106 95 [l0, l1, l2, l3, l4] s h else am_E P 106 51 [l0, l1, l2, l3, l4] s h) ∧
  (∀ (P : Nat × Nat) (l0 : Option Value) (l1 : Option Value) (l2 : Option Value) (l4 : Option Value) (x0 : Int32) (s : List Value) (h : am_H), am_E P 106 51 [l0, l1, l2, some (.int x0), l4] s h = am_E P 106 52 [l0, l1, l2, some (.int x0), l4] (.int x0 :: s) h) ∧
  (∀ (P : Nat × Nat) (l0 : Option Value) (l1 : Option Value) (l3 : Option Value) (l4 : Option Value) (x0 : Int32) (s : List Value) (h : am_H), am_E P 106 52 [l0, l1, some (.int x0), l3, l4] s h = am_E P 106 53 [l0, l1, some (.int x0), l3, l4] (.int x0 :: s) h) ∧
  (∀ (P : Nat × Nat) (l0 : Option Value) (l1 : Option Value) (l2 : Option Value) (l3 : Option Value) (l4 : Option Value) (s : List Value) (h : am_H), am_E P 106 53 [l0, l1, l2, l3, l4] s h = am_E P 106 55 [l0, l1, l2, l3, l4] (.int (-6) :: s) h) ∧
  (∀ (P : Nat × Nat) (l0 : Option Value) (l1 : Option Value) (l2 : Option Value) (l3 : Option Value) (l4 : Option Value) (x0 : Int32) (x1 : Int32) (s : List Value) (h : am_H), am_E P 106 55 [l0, l1, l2, l3, l4] (.int x1 :: .int x0 :: s) h = if x0 = x1 then am_E P 106 82 [l0, l1, l2, l3, l4] s h else am_E P 106 58 [l0, l1, l2, l3, l4] s h) ∧
  (∀ (P : Nat × Nat) (l1 : Option Value) (l2 : Option Value) (l3 : Option Value) (l4 : Option Value) (a0 : Nat) (s : List Value) (h : am_H), am_E P 106 58 [some (.ref a0), l1, l2, l3, l4] s h = am_E P 106 59 [some (.ref a0), l1, l2, l3, l4] (.ref a0 :: s) h) ∧
  (∀ (P : Nat × Nat) (l1 : Option Value) (l2 : Option Value) (l3 : Option Value) (l4 : Option Value) (s : List Value) (h : am_H), am_E P 106 58 [some .null, l1, l2, l3, l4] s h = am_E P 106 59 [some .null, l1, l2, l3, l4] (.null :: s) h) ∧
  (∀ (P : Nat × Nat) (l0 : Option Value) (l1 : Option Value) (l2 : Option Value) (l3 : Option Value) (l4 : Option Value) (a0 : Nat) (s : List Value) (h : am_H), am_E P 106 59 [l0, l1, l2, l3, l4] (.ref a0 :: s) h = (am_g1 h a0 9 15).bind (fun v => am_E P 106 62 [l0, l1, l2, l3, l4] (v :: s) h)) ∧
  (∀ (P : Nat × Nat) (l1 : Option Value) (l2 : Option Value) (l3 : Option Value) (l4 : Option Value) (a0 : Nat) (s : List Value) (h : am_H), am_E P 106 62 [some (.ref a0), l1, l2, l3, l4] s h = am_E P 106 63 [some (.ref a0), l1, l2, l3, l4] (.ref a0 :: s) h) ∧
  (∀ (P : Nat × Nat) (l1 : Option Value) (l2 : Option Value) (l3 : Option Value) (l4 : Option Value) (s : List Value) (h : am_H), am_E P 106 62 [some .null, l1, l2, l3, l4] s h = am_E P 106 63 [some .null, l1, l2, l3, l4] (.null :: s) h) ∧
  (∀ (P : Nat × Nat) (l0 : Option Value) (l1 : Option Value) (l2 : Option Value) (l3 : Option Value) (l4 : Option Value) (a0 : Nat) (s : List Value) (h : am_H), am_E P 106 63 [l0, l1, l2, l3, l4] (.ref a0 :: s) h = (am_g1 h a0 9 23).bind (fun v => am_E P 106 66 [l0, l1, l2, l3, l4] (v :: s) h)) ∧
  (∀ (P : Nat × Nat) (l0 : Option Value) (l2 : Option Value) (l3 : Option Value) (l4 : Option Value) (x0 : Int32) (s : List Value) (h : am_H), am_E P 106 66 [l0, some (.int x0), l2, l3, l4] s h = am_E P 106 67 [l0, some (.int x0), l2, l3, l4] (.int x0 :: s) h) ∧
  (∀ (P : Nat × Nat) (l0 : Option Value) (l1 : Option Value) (l2 : Option Value) (l3 : Option Value) (l4 : Option Value) (x0 : Int32) (a0 : Nat) (s : List Value) (h : am_H), am_E P 106 67 [l0, l1, l2, l3, l4] (.int x0 :: .ref a0 :: s) h = (am_iald h a0 x0).bind (fun v => am_E P 106 68 [l0, l1, l2, l3, l4] (.int v :: s) h)) ∧
  (∀ (P : Nat × Nat) (l0 : Option Value) (l1 : Option Value) (l2 : Option Value) (l3 : Option Value) (l4 : Option Value) (s : List Value) (h : am_H), am_E P 106 68 [l0, l1, l2, l3, l4] s h = am_E P 106 70 [l0, l1, l2, l3, l4] (.int 100 :: s) h) ∧
  (∀ (P : Nat × Nat) (l0 : Option Value) (l1 : Option Value) (l2 : Option Value) (l3 : Option Value) (l4 : Option Value) (x0 : Int32) (x1 : Int32) (s : List Value) (h : am_H), am_E P 106 70 [l0, l1, l2, l3, l4] (.int x1 :: .int x0 :: s) h = am_E P 106 71 [l0, l1, l2, l3, l4] (.int (x0 * x1) :: s) h) ∧
  (∀ (P : Nat × Nat) (l0 : Option Value) (l1 : Option Value) (l2 : Option Value) (l3 : Option Value) (l4 : Option Value) (s : List Value) (h : am_H), am_E P 106 71 [l0, l1, l2, l3, l4] s h = am_E P 106 73 [l0, l1, l2, l3, l4] (.int 20 :: s) h) ∧
  (∀ (P : Nat × Nat) (l0 : Option Value) (l1 : Option Value) (l2 : Option Value) (l3 : Option Value) (l4 : Option Value) (x0 : Int32) (x1 : Int32) (s : List Value) (h : am_H), am_E P 106 73 [l0, l1, l2, l3, l4] (.int x1 :: .int x0 :: s) h = am_E P 106 74 [l0, l1, l2, l3, l4] (.int (x0 * x1) :: s) h) ∧
  (∀ (P : Nat × Nat) (l0 : Option Value) (l1 : Option Value) (l2 : Option Value) (l3 : Option Value) (x0 : Int32) (s : List Value) (h : am_H), am_E P 106 74 [l0, l1, l2, l3, some (.int x0)] s h = am_E P 106 76 [l0, l1, l2, l3, some (.int x0)] (.int x0 :: s) h) ∧
  (∀ (P : Nat × Nat) (l0 : Option Value) (l1 : Option Value) (l2 : Option Value) (l3 : Option Value) (l4 : Option Value) (x0 : Int32) (x1 : Int32) (s : List Value) (h : am_H), am_E P 106 76 [l0, l1, l2, l3, l4] (.int x1 :: .int x0 :: s) h = am_E P 106 77 [l0, l1, l2, l3, l4] (.int (x0 + x1) :: s) h) ∧
  (∀ (P : Nat × Nat) (l0 : Option Value) (l1 : Option Value) (l2 : Option Value) (l3 : Option Value) (l4 : Option Value) (x0 : Int32) (a0 : Nat) (s : List Value) (h : am_H), am_E P 106 77 [l0, l1, l2, l3, l4] (.int x0 :: .ref a0 :: s) h = (am_iald h a0 x0).bind (fun v => am_E P 106 78 [l0, l1, l2, l3, l4] (.int v :: s) h)) ∧
  (∀ (P : Nat × Nat) (l0 : Option Value) (l1 : Option Value) (l3 : Option Value) (l4 : Option Value) (x0 : Int32) (s : List Value) (h : am_H), am_E P 106 78 [l0, l1, some (.int x0), l3, l4] s h = am_E P 106 79 [l0, l1, some (.int x0), l3, l4] (.int x0 :: s) h) ∧
  (∀ (P : Nat × Nat) (l0 : Option Value) (l1 : Option Value) (l2 : Option Value) (l3 : Option Value) (l4 : Option Value) (x0 : Int32) (x1 : Int32) (s : List Value) (h : am_H), am_E P 106 79 [l0, l1, l2, l3, l4] (.int x1 :: .int x0 :: s) h = if x0 = x1 then am_E P 106 82 [l0, l1, l2, l3, l4] s h else am_E P 106 86 [l0, l1, l2, l3, l4] s h) ∧
  (∀ (P : Nat × Nat) (l0 : Option Value) (l1 : Option Value) (l2 : Option Value) (l3 : Option Value) (l4 : Option Value) (s : List Value) (h : am_H), am_E P 106 82 [l0, l1, l2, l3, l4] s h = am_E P 106 83 [l0, l1, l2, l3, l4] (.int 1 :: s) h) ∧
  (∀ (P : Nat × Nat) (l0 : Option Value) (l1 : Option Value) (l2 : Option Value) (l3 : Option Value) (l4 : Option Value) (s : List Value) (h : am_H), am_E P 106 83 [l0, l1, l2, l3, l4] s h = am_E P 106 87 [l0, l1, l2, l3, l4] s h) ∧
  (∀ (P : Nat × Nat) (l0 : Option Value) (l1 : Option Value) (l2 : Option Value) (l3 : Option Value) (l4 : Option Value) (s : List Value) (h : am_H), am_E P 106 86 [l0, l1, l2, l3, l4] s h = am_E P 106 87 [l0, l1, l2, l3, l4] (.int 0 :: s) h) ∧
  (∀ (P : Nat × Nat) (l0 : Option Value) (l1 : Option Value) (l2 : Option Value) (l3 : Option Value) (l4 : Option Value) (x0 : Int32) (x1 : Int32) (s : List Value) (h : am_H), am_E P 106 87 [l0, l1, l2, l3, l4] (.int x1 :: .int x0 :: s) h = am_E P 106 88 [l0, l1, l2, l3, l4] (.int (x0 + x1) :: s) h) ∧
  (∀ (P : Nat × Nat) (l0 : Option Value) (l1 : Option Value) (l2 : Option Value) (l3 : Option Value) (l4 : Option Value) (x0 : Int32) (s : List Value) (h : am_H), am_E P 106 88 [l0, l1, l2, l3, l4] (.int x0 :: s) h = am_E P 106 89 [l0, l1, l2, some (.int x0), l4] s h) ∧
  (∀ (P : Nat × Nat) (l0 : Option Value) (l1 : Option Value) (l2 : Option Value) (l3 : Option Value) (x0 : Int32) (s : List Value) (h : am_H), am_E P 106 89 [l0, l1, l2, l3, some (.int x0)] s h = am_E P 106 92 [l0, l1, l2, l3, some (.int (x0 + 1))] s h) ∧
  (∀ (P : Nat × Nat) (l0 : Option Value) (l1 : Option Value) (l2 : Option Value) (l3 : Option Value) (l4 : Option Value) (s : List Value) (h : am_H), am_E P 106 92 [l0, l1, l2, l3, l4] s h = am_E P 106 40 [l0, l1, l2, l3, l4] s h) ∧
  (∀ (P : Nat × Nat) (l0 : Option Value) (l1 : Option Value) (l2 : Option Value) (l4 : Option Value) (x0 : Int32) (s : List Value) (h : am_H), am_E P 106 95 [l0, l1, l2, some (.int x0), l4] s h = am_E P 106 96 [l0, l1, l2, some (.int x0), l4] (.int x0 :: s) h) ∧
  (∀ (P : Nat × Nat) (l0 : Option Value) (l1 : Option Value) (l2 : Option Value) (l3 : Option Value) (l4 : Option Value) (x0 : Int32) (h : am_H), am_E P 106 96 [l0, l1, l2, l3, l4] [.int x0] h = some (some (.int x0), h)) :=
  ⟨fun _ _ _ _ _ _ _ _ => er_go rfl rfl,
  fun _ _ _ _ _ _ _ _ => er_go rfl rfl,
  fun _ _ _ _ _ _ _ _ => er_go rfl rfl,
  fun _ _ _ _ _ _ _ => er_go rfl rfl,
  fun _ _ _ _ _ _ _ _ _ => er_get1 rfl,
  fun _ _ _ _ _ _ _ _ => er_go rfl rfl,
  fun _ _ _ _ _ _ _ _ _ _ => er_go rfl rfl,
  fun _ _ _ _ _ _ _ _ _ _ => er_callS rfl rfl rfl,
  fun _ _ _ _ _ _ _ _ _ => er_if_eq rfl,
  fun _ _ _ _ _ _ _ _ => er_go rfl rfl,
  fun _ _ _ _ _ _ _ _ => er_ret rfl rfl,
  fun _ _ _ _ _ _ _ _ => er_go rfl rfl,
  fun _ _ _ _ _ _ _ _ => er_go rfl rfl,
  fun _ _ _ _ _ _ _ _ _ _ => er_ic_eq rfl,
  fun _ _ _ _ _ _ _ _ => er_go rfl rfl,
  fun _ _ _ _ _ _ _ _ => er_go rfl rfl,
  fun _ _ _ _ _ _ _ _ => er_go rfl rfl,
  fun _ _ _ _ _ _ _ _ _ _ => er_callS rfl rfl rfl,
  fun _ _ _ _ _ _ _ _ _ => er_if_eq rfl,
  fun _ _ _ _ _ _ _ _ => er_go rfl rfl,
  fun _ _ _ _ _ _ _ _ => er_ret rfl rfl,
  fun _ _ _ _ _ _ _ _ => er_go rfl rfl,
  fun _ _ _ _ _ _ _ _ _ => er_go rfl rfl,
  fun _ _ _ _ _ _ _ _ => er_go rfl rfl,
  fun _ _ _ _ _ _ _ _ _ => er_go rfl rfl,
  fun _ _ _ _ _ _ _ _ => er_go rfl rfl,
  fun _ _ _ _ _ _ _ => er_go rfl rfl,
  fun _ _ _ _ _ _ _ _ _ => er_get1 rfl,
  fun _ _ _ _ _ _ _ _ => er_go rfl rfl,
  fun _ _ _ _ _ _ _ _ _ _ => er_iald rfl,
  fun _ _ _ _ _ _ _ _ _ _ => er_ic_ge rfl,
  fun _ _ _ _ _ _ _ _ => er_go rfl rfl,
  fun _ _ _ _ _ _ _ _ => er_go rfl rfl,
  fun _ _ _ _ _ _ _ _ => er_go rfl rfl,
  fun _ _ _ _ _ _ _ _ _ _ => er_ic_eq rfl,
  fun _ _ _ _ _ _ _ _ => er_go rfl rfl,
  fun _ _ _ _ _ _ _ => er_go rfl rfl,
  fun _ _ _ _ _ _ _ _ _ => er_get1 rfl,
  fun _ _ _ _ _ _ _ _ => er_go rfl rfl,
  fun _ _ _ _ _ _ _ => er_go rfl rfl,
  fun _ _ _ _ _ _ _ _ _ => er_get1 rfl,
  fun _ _ _ _ _ _ _ _ => er_go rfl rfl,
  fun _ _ _ _ _ _ _ _ _ _ => er_iald rfl,
  fun _ _ _ _ _ _ _ _ => er_go rfl rfl,
  fun _ _ _ _ _ _ _ _ _ _ => er_go rfl rfl,
  fun _ _ _ _ _ _ _ _ => er_go rfl rfl,
  fun _ _ _ _ _ _ _ _ _ _ => er_go rfl rfl,
  fun _ _ _ _ _ _ _ _ => er_go rfl rfl,
  fun _ _ _ _ _ _ _ _ _ _ => er_go rfl rfl,
  fun _ _ _ _ _ _ _ _ _ _ => er_iald rfl,
  fun _ _ _ _ _ _ _ _ => er_go rfl rfl,
  fun _ _ _ _ _ _ _ _ _ _ => er_ic_ne rfl,
  fun _ _ _ _ _ _ _ _ => er_go rfl rfl,
  fun _ _ _ _ _ _ _ _ => er_go rfl rfl,
  fun _ _ _ _ _ _ _ _ => er_go rfl rfl,
  fun _ _ _ _ _ _ _ _ _ _ => er_go rfl rfl,
  fun _ _ _ _ _ _ _ _ _ => er_go rfl rfl,
  fun _ _ _ _ _ _ _ _ => er_go rfl rfl,
  fun _ _ _ _ _ _ _ _ => er_go rfl rfl,
  fun _ _ _ _ _ _ _ _ => er_go rfl rfl,
  fun _ _ _ _ _ _ _ _ => er_ret rfl rfl⟩
set_option maxRecDepth 100000 in
theorem hd106_40 : ∀ (P : Nat × Nat) (l0 : Option Value) (l1 : Option Value) (l2 : Option Value) (l3 : Option Value) (x0 : Int32) (s : List Value) (h : am_H), am_E P 106 40 [l0, l1, l2, l3, some (.int x0)] s h = am_E P 106 42 [l0, l1, l2, l3, some (.int x0)] (.int x0 :: s) h := fun _ _ _ _ _ _ _ _ => er_go rfl rfl
set_option maxRecDepth 100000 in
/-- TwoStepOutputsModel.record(II)I -/
theorem r107 : (∀ (P : Nat × Nat) (l0 : Option Value) (l2 : Option Value) (x0 : Int32) (s : List Value) (h : am_H), am_E P 107 0 [l0, some (.int x0), l2] s h = am_E P 107 1 [l0, some (.int x0), l2] (.int x0 :: s) h) ∧
  (∀ (P : Nat × Nat) (l0 : Option Value) (l1 : Option Value) (l2 : Option Value) (s : List Value) (h : am_H), am_E P 107 1 [l0, l1, l2] s h = am_E P 107 2 [l0, l1, l2] (.int 0 :: s) h) ∧
  (∀ (P : Nat × Nat) (l1 : Option Value) (l2 : Option Value) (a0 : Nat) (s : List Value) (h : am_H), am_E P 107 2 [some (.ref a0), l1, l2] s h = am_E P 107 3 [some (.ref a0), l1, l2] (.ref a0 :: s) h) ∧
  (∀ (P : Nat × Nat) (l1 : Option Value) (l2 : Option Value) (s : List Value) (h : am_H), am_E P 107 2 [some .null, l1, l2] s h = am_E P 107 3 [some .null, l1, l2] (.null :: s) h) ∧
  (∀ (P : Nat × Nat) (l0 : Option Value) (l1 : Option Value) (l2 : Option Value) (a0 : Nat) (s : List Value) (h : am_H), am_E P 107 3 [l0, l1, l2] (.ref a0 :: s) h = (am_g1 h a0 9 8).bind (fun v => am_E P 107 6 [l0, l1, l2] (v :: s) h)) ∧
  (∀ (P : Nat × Nat) (l0 : Option Value) (l1 : Option Value) (l2 : Option Value) (s : List Value) (h : am_H), am_E P 107 6 [l0, l1, l2] s h = am_E P 107 7 [l0, l1, l2] (.int 1 :: s) h) ∧
  (∀ (P : Nat × Nat) (l0 : Option Value) (l1 : Option Value) (l2 : Option Value) (x0 : Int32) (x1 : Int32) (s : List Value) (h : am_H), am_E P 107 7 [l0, l1, l2] (.int x1 :: .int x0 :: s) h = am_E P 107 8 [l0, l1, l2] (.int (x0 - x1) :: s) h) ∧
  (∀ (P : Nat × Nat) (l0 : Option Value) (l1 : Option Value) (l2 : Option Value) (x0 : Int32) (x1 : Int32) (x2 : Int32) (h : am_H), am_E P 107 8 [l0, l1, l2] [.int x2, .int x1, .int x0] h = (am_E P 74 0 [some (.int x0), some (.int x1), some (.int x2)] [] h).bind (fun q => am_E P 107 11 [l0, l1, l2] (q.1.toList ++ []) q.2)) ∧
  (∀ (P : Nat × Nat) (l0 : Option Value) (l1 : Option Value) (l2 : Option Value) (x0 : Int32) (s : List Value) (h : am_H), am_E P 107 11 [l0, l1, l2] (.int x0 :: s) h = if x0 = 0 then am_E P 107 16 [l0, l1, l2] s h else am_E P 107 14 [l0, l1, l2] s h) ∧
  (∀ (P : Nat × Nat) (l0 : Option Value) (l1 : Option Value) (l2 : Option Value) (s : List Value) (h : am_H), am_E P 107 14 [l0, l1, l2] s h = am_E P 107 15 [l0, l1, l2] (.int (-1) :: s) h) ∧
  (∀ (P : Nat × Nat) (l0 : Option Value) (l1 : Option Value) (l2 : Option Value) (x0 : Int32) (h : am_H), am_E P 107 15 [l0, l1, l2] [.int x0] h = some (some (.int x0), h)) ∧
  (∀ (P : Nat × Nat) (l0 : Option Value) (l1 : Option Value) (x0 : Int32) (s : List Value) (h : am_H), am_E P 107 16 [l0, l1, some (.int x0)] s h = am_E P 107 17 [l0, l1, some (.int x0)] (.int x0 :: s) h) ∧
  (∀ (P : Nat × Nat) (l0 : Option Value) (l1 : Option Value) (l2 : Option Value) (x0 : Int32) (s : List Value) (h : am_H), am_E P 107 17 [l0, l1, l2] (.int x0 :: s) h = if x0 = 0 then am_E P 107 20 [l0, l1, l2] s h else am_E P 107 29 [l0, l1, l2] s h) ∧
  (∀ (P : Nat × Nat) (l1 : Option Value) (l2 : Option Value) (a0 : Nat) (s : List Value) (h : am_H), am_E P 107 20 [some (.ref a0), l1, l2] s h = am_E P 107 21 [some (.ref a0), l1, l2] (.ref a0 :: s) h) ∧
  (∀ (P : Nat × Nat) (l1 : Option Value) (l2 : Option Value) (s : List Value) (h : am_H), am_E P 107 20 [some .null, l1, l2] s h = am_E P 107 21 [some .null, l1, l2] (.null :: s) h) ∧
  (∀ (P : Nat × Nat) (l0 : Option Value) (l1 : Option Value) (l2 : Option Value) (a0 : Nat) (s : List Value) (h : am_H), am_E P 107 21 [l0, l1, l2] (.ref a0 :: s) h = (am_g1 h a0 9 9).bind (fun v => am_E P 107 24 [l0, l1, l2] (v :: s) h)) ∧
  (∀ (P : Nat × Nat) (l0 : Option Value) (l2 : Option Value) (x0 : Int32) (s : List Value) (h : am_H), am_E P 107 24 [l0, some (.int x0), l2] s h = am_E P 107 25 [l0, some (.int x0), l2] (.int x0 :: s) h) ∧
  (∀ (P : Nat × Nat) (l0 : Option Value) (l1 : Option Value) (l2 : Option Value) (x0 : Int32) (a0 : Nat) (s : List Value) (h : am_H), am_E P 107 25 [l0, l1, l2] (.int x0 :: .ref a0 :: s) h = (am_iald h a0 x0).bind (fun v => am_E P 107 26 [l0, l1, l2] (.int v :: s) h)) ∧
  (∀ (P : Nat × Nat) (l0 : Option Value) (l1 : Option Value) (l2 : Option Value) (s : List Value) (h : am_H), am_E P 107 26 [l0, l1, l2] s h = am_E P 107 87 [l0, l1, l2] s h) ∧
  (∀ (P : Nat × Nat) (l0 : Option Value) (l1 : Option Value) (x0 : Int32) (s : List Value) (h : am_H), am_E P 107 29 [l0, l1, some (.int x0)] s h = am_E P 107 30 [l0, l1, some (.int x0)] (.int x0 :: s) h) ∧
  (∀ (P : Nat × Nat) (l0 : Option Value) (l1 : Option Value) (l2 : Option Value) (s : List Value) (h : am_H), am_E P 107 30 [l0, l1, l2] s h = am_E P 107 31 [l0, l1, l2] (.int 1 :: s) h) ∧
  (∀ (P : Nat × Nat) (l0 : Option Value) (l1 : Option Value) (l2 : Option Value) (x0 : Int32) (x1 : Int32) (s : List Value) (h : am_H), am_E P 107 31 [l0, l1, l2] (.int x1 :: .int x0 :: s) h = if x0 = x1 then am_E P 107 34 [l0, l1, l2] s h else am_E P 107 43 [l0, l1, l2] s h) ∧
  (∀ (P : Nat × Nat) (l1 : Option Value) (l2 : Option Value) (a0 : Nat) (s : List Value) (h : am_H), am_E P 107 34 [some (.ref a0), l1, l2] s h = am_E P 107 35 [some (.ref a0), l1, l2] (.ref a0 :: s) h) ∧
  (∀ (P : Nat × Nat) (l1 : Option Value) (l2 : Option Value) (s : List Value) (h : am_H), am_E P 107 34 [some .null, l1, l2] s h = am_E P 107 35 [some .null, l1, l2] (.null :: s) h) ∧
  (∀ (P : Nat × Nat) (l0 : Option Value) (l1 : Option Value) (l2 : Option Value) (a0 : Nat) (s : List Value) (h : am_H), am_E P 107 35 [l0, l1, l2] (.ref a0 :: s) h = (am_g1 h a0 9 10).bind (fun v => am_E P 107 38 [l0, l1, l2] (v :: s) h)) ∧
  (∀ (P : Nat × Nat) (l0 : Option Value) (l2 : Option Value) (x0 : Int32) (s : List Value) (h : am_H), am_E P 107 38 [l0, some (.int x0), l2] s h = am_E P 107 39 [l0, some (.int x0), l2] (.int x0 :: s) h) ∧
  (∀ (P : Nat × Nat) (l0 : Option Value) (l1 : Option Value) (l2 : Option Value) (x0 : Int32) (a0 : Nat) (s : List Value) (h : am_H), am_E P 107 39 [l0, l1, l2] (.int x0 :: .ref a0 :: s) h = (am_iald h a0 x0).bind (fun v => am_E P 107 40 [l0, l1, l2] (.int v :: s) h)) ∧
  (∀ (P : Nat × Nat) (l0 : Option Value) (l1 : Option Value) (l2 : Option Value) (s : List Value) (h : am_H), am_E P 107 40 [l0, l1, l2] s h = am_E P 107 87 [l0, l1, l2] s h) ∧
  (∀ (P : Nat × Nat) (l0 : Option Value) (l1 : Option Value) (x0 : Int32) (s : List Value) (h : am_H), am_E P 107 43 [l0, l1, some (.int x0)] s h = am_E P 107 44 [l0, l1, some (.int x0)] (.int x0 :: s) h) ∧
  (∀ (P : Nat × Nat) (l0 : Option Value) (l1 : Option Value) (l2 : Option Value) (s : List Value) (h : am_H), am_E P 107 44 [l0, l1, l2] s h = am_E P 107 45 [l0, l1, l2] (.int 2 :: s) h) ∧
  (∀ (P : Nat × Nat) (l0 : Option Value) (l1 : Option Value) (l2 : Option Value) (x0 : Int32) (x1 : Int32) (s : List Value) (h : am_H), am_E P 107 45 [l0, l1, l2] (.int x1 :: .int x0 :: s) h = if x0 = x1 then am_E P 107 48 [l0, l1, l2] s h else am_E P 107 57 [l0, l1, l2] s h) ∧
  (∀ (P : Nat × Nat) (l1 : Option Value) (l2 : Option Value) (a0 : Nat) (s : List Value) (h : am_H), am_E P 107 48 [some (.ref a0), l1, l2] s h = am_E P 107 49 [some (.ref a0), l1, l2] (.ref a0 :: s) h) ∧
  (∀ (P : Nat × Nat) (l1 : Option Value) (l2 : Option Value) (s : List Value) (h : am_H), am_E P 107 48 [some .null, l1, l2] s h = am_E P 107 49 [some .null, l1, l2] (.null :: s) h) ∧
  (∀ (P : Nat × Nat) (l0 : Option Value) (l1 : Option Value) (l2 : Option Value) (a0 : Nat) (s : List Value) (h : am_H), am_E P 107 49 [l0, l1, l2] (.ref a0 :: s) h = (am_g1 h a0 9 11).bind (fun v => am_E P 107 52 [l0, l1, l2] (v :: s) h)) ∧
  (∀ (P : Nat × Nat) (l0 : Option Value) (l2 : Option Value) (x0 : Int32) (s : List Value) (h : am_H), am_E P 107 52 [l0, some (.int x0), l2] s h = am_E P 107 53 [l0, some (.int x0), l2] (.int x0 :: s) h) ∧
  (∀ (P : Nat × Nat) (l0 : Option Value) (l1 : Option Value) (l2 : Option Value) (x0 : Int32) (a0 : Nat) (s : List Value) (h : am_H), am_E P 107 53 [l0, l1, l2] (.int x0 :: .ref a0 :: s) h = (am_iald h a0 x0).bind (fun v => am_E P 107 54 [l0, l1, l2] (.int v :: s) h)) ∧
  (∀ (P : Nat × Nat) (l0 : Option Value) (l1 : Option Value) (l2 : Option Value) (s : List Value) (h : am_H), am_E P 107 54 [l0, l1, l2] s h = am_E P 107 87 [l0, l1, l2] s h) ∧
  (∀ (P : Nat × Nat) (l0 : Option Value) (l1 : Option Value) (x0 : Int32) (s : List Value) (h : am_H), am_E P 107 57 [l0, l1, some (.int x0)] s h = am_E P 107 58 [l0, l1, some (.int x0)] (.int x0 :: s) h) ∧
  (∀ (P : Nat × Nat) (l0 : Option Value) (l1 : Option Value) (l2 : Option Value) (s : List Value) (h : am_H), am_E P 107 58 [l0, l1, l2] s h = am_E P 107 59 [l0, l1, l2] (.int 3 :: s) h) ∧
  (∀ (P : Nat × Nat) (l0 : Option Value) (l1 : Option Value) (l2 : Option Value) (x0 : Int32) (x1 : Int32) (s : List Value) (h : am_H), am_E P 107 59 [l0, l1, l2] (.int x1 :: .int x0 :: s) h = if x0 = x1 then am_E P 107 62 [l0, l1, l2] s h else am_E P 107 71 [l0, l1, l2] s h) ∧
  (∀ (P : Nat × Nat) (l1 : Option Value) (l2 : Option Value) (a0 : Nat) (s : List Value) (h : am_H), am_E P 107 62 [some (.ref a0), l1, l2] s h = am_E P 107 63 [some (.ref a0), l1, l2] (.ref a0 :: s) h) ∧
  (∀ (P : Nat × Nat) (l1 : Option Value) (l2 : Option Value) (s : List Value) (h : am_H), am_E P 107 62 [some .null, l1, l2] s h = am_E P 107 63 [some .null, l1, l2] (.null :: s) h) ∧
  (∀ (P : Nat × Nat) (l0 : Option Value) (l1 : Option Value) (l2 : Option Value) (a0 : Nat) (s : List Value) (h : am_H), am_E P 107 63 [l0, l1, l2] (.ref a0 :: s) h = (am_g1 h a0 9 12).bind (fun v => am_E P 107 66 [l0, l1, l2] (v :: s) h)) ∧
  (∀ (P : Nat × Nat) (l0 : Option Value) (l2 : Option Value) (x0 : Int32) (s : List Value) (h : am_H), am_E P 107 66 [l0, some (.int x0), l2] s h = am_E P 107 67 [l0, some (.int x0), l2] (.int x0 :: s) h) ∧
  (∀ (P : Nat × Nat) (l0 : Option Value) (l1 : Option Value) (l2 : Option Value) (x0 : Int32) (a0 : Nat) (s : List Value) (h : am_H), am_E P 107 67 [l0, l1, l2] (.int x0 :: .ref a0 :: s) h = (am_iald h a0 x0).bind (fun v => am_E P 107 68 [l0, l1, l2] (.int v :: s) h)) ∧
  (∀ (P : Nat × Nat) (l0 : Option Value) (l1 : Option Value) (l2 : Option Value) (s : List Value) (h : am_H), am_E P 107 68 [l0, l1, l2] s h = am_E P 107 87 [l0, l1, l2] s h) ∧
  (∀ (P : Nat × Nat) (l0 : Option Value) (l1 : Option Value) (x0 : Int32) (s : List Value) (h : am_H), am_E P 107 71 [l0, l1, some (.int x0)] s h = am_E P 107 72 [l0, l1, some (.int x0)] (.int x0 :: s) h) ∧
  (∀ (P : Nat × Nat) (l0 : Option Value) (l1 : Option Value) (l2 : Option Value) (s : List Value) (h : am_H), am_E P 107 72 [l0, l1, l2] s h = am_E P 107 73 [l0, l1, l2] (.int 4 :: s) h) ∧
  (∀ (P : Nat × Nat) (l0 : Option Value) (l1 : Option Value) (l2 : Option Value) (x0 : Int32) (x1 : Int32) (s : List Value) (h : am_H), am_E P 107 73 [l0, l1, l2] (.int x1 :: .int x0 :: s) h = if x0 = x1 then am_E P 107 76 [l0, l1, l2] s h else am_E P 107 85 [l0, l1, l2] s h) ∧
  (∀ (P : Nat × Nat) (l1 : Option Value) (l2 : Option Value) (a0 : Nat) (s : List Value) (h : am_H), am_E P 107 76 [some (.ref a0), l1, l2] s h = am_E P 107 77 [some (.ref a0), l1, l2] (.ref a0 :: s) h) ∧
  (∀ (P : Nat × Nat) (l1 : Option Value) (l2 : Option Value) (s : List Value) (h : am_H), am_E P 107 76 [some .null, l1, l2] s h = am_E P 107 77 [some .null, l1, l2] (.null :: s) h) ∧
  (∀ (P : Nat × Nat) (l0 : Option Value) (l1 : Option Value) (l2 : Option Value) (a0 : Nat) (s : List Value) (h : am_H), am_E P 107 77 [l0, l1, l2] (.ref a0 :: s) h = (am_g1 h a0 9 13).bind (fun v => am_E P 107 80 [l0, l1, l2] (v :: s) h)) ∧
  (∀ (P : Nat × Nat) (l0 : Option Value) (l2 : Option Value) (x0 : Int32) (s : List Value) (h : am_H), am_E P 107 80 [l0, some (.int x0), l2] s h = am_E P 107 81 [l0, some (.int x0), l2] (.int x0 :: s) h) ∧
  (∀ (P : Nat × Nat) (l0 : Option Value) (l1 : Option Value) (l2 : Option Value) (x0 : Int32) (a0 : Nat) (s : List Value) (h : am_H), am_E P 107 81 [l0, l1, l2] (.int x0 :: .ref a0 :: s) h = (am_iald h a0 x0).bind (fun v => am_E P 107 82 [l0, l1, l2] (.int v :: s) h)) ∧
  (∀ (P : Nat × Nat) (l0 : Option Value) (l1 : Option Value) (l2 : Option Value) (s : List Value) (h : am_H), am_E P 107 82 [l0, l1, l2] s h = am_E P 107 87 [l0, l1, l2] s h) ∧
  (∀ (P : Nat × Nat) (l0 : Option Value) (l1 : Option Value) (l2 : Option Value) (s : List Value) (h : am_H), am_E P 107 85 [l0, l1, l2] s h = am_E P 107 87 [l0, l1, l2] (.int (-2) :: s) h) ∧
  (∀ (P : Nat × Nat) (l0 : Option Value) (l1 : Option Value) (l2 : Option Value) (x0 : Int32) (h : am_H), am_E P 107 87 [l0, l1, l2] [.int x0] h = some (some (.int x0), h)) :=
  ⟨fun _ _ _ _ _ _ => er_go rfl rfl,
  fun _ _ _ _ _ _ => er_go rfl rfl,
  fun _ _ _ _ _ _ => er_go rfl rfl,
  fun _ _ _ _ _ => er_go rfl rfl,
  fun _ _ _ _ _ _ _ => er_get1 rfl,
  fun _ _ _ _ _ _ => er_go rfl rfl,
  fun _ _ _ _ _ _ _ _ => er_go rfl rfl,
  fun _ _ _ _ _ _ _ _ => er_callS rfl rfl rfl,
  fun _ _ _ _ _ _ _ => er_if_eq rfl,
  fun _ _ _ _ _ _ => er_go rfl rfl,
  fun _ _ _ _ _ _ => er_ret rfl rfl,
  fun _ _ _ _ _ _ => er_go rfl rfl,
  fun _ _ _ _ _ _ _ => er_if_ne rfl,
  fun _ _ _ _ _ _ => er_go rfl rfl,
  fun _ _ _ _ _ => er_go rfl rfl,
  fun _ _ _ _ _ _ _ => er_get1 rfl,
  fun _ _ _ _ _ _ => er_go rfl rfl,
  fun _ _ _ _ _ _ _ _ => er_iald rfl,
  fun _ _ _ _ _ _ => er_go rfl rfl,
  fun _ _ _ _ _ _ => er_go rfl rfl,
  fun _ _ _ _ _ _ => er_go rfl rfl,
  fun _ _ _ _ _ _ _ _ => er_ic_ne rfl,
  fun _ _ _ _ _ _ => er_go rfl rfl,
  fun _ _ _ _ _ => er_go rfl rfl,
  fun _ _ _ _ _ _ _ => er_get1 rfl,
  fun _ _ _ _ _ _ => er_go rfl rfl,
  fun _ _ _ _ _ _ _ _ => er_iald rfl,
  fun _ _ _ _ _ _ => er_go rfl rfl,
  fun _ _ _ _ _ _ => er_go rfl rfl,
  fun _ _ _ _ _ _ => er_go rfl rfl,
  fun _ _ _ _ _ _ _ _ => er_ic_ne rfl,
  fun _ _ _ _ _ _ => er_go rfl rfl,
  fun _ _ _ _ _ => er_go rfl rfl,
  fun _ _ _ _ _ _ _ => er_get1 rfl,
  fun _ _ _ _ _ _ => er_go rfl rfl,
  fun _ _ _ _ _ _ _ _ => er_iald rfl,
  fun _ _ _ _ _ _ => er_go rfl rfl,
  fun _ _ _ _ _ _ => er_go rfl rfl,
  fun _ _ _ _ _ _ => er_go rfl rfl,
  fun _ _ _ _ _ _ _ _ => er_ic_ne rfl,
  fun _ _ _ _ _ _ => er_go rfl rfl,
  fun _ _ _ _ _ => er_go rfl rfl,
  fun _ _ _ _ _ _ _ => er_get1 rfl,
  fun _ _ _ _ _ _ => er_go rfl rfl,
  fun _ _ _ _ _ _ _ _ => er_iald rfl,
  fun _ _ _ _ _ _ => er_go rfl rfl,
  fun _ _ _ _ _ _ => er_go rfl rfl,
  fun _ _ _ _ _ _ => er_go rfl rfl,
  fun _ _ _ _ _ _ _ _ => er_ic_ne rfl,
  fun _ _ _ _ _ _ => er_go rfl rfl,
  fun _ _ _ _ _ => er_go rfl rfl,
  fun _ _ _ _ _ _ _ => er_get1 rfl,
  fun _ _ _ _ _ _ => er_go rfl rfl,
  fun _ _ _ _ _ _ _ _ => er_iald rfl,
  fun _ _ _ _ _ _ => er_go rfl rfl,
  fun _ _ _ _ _ _ => er_go rfl rfl,
  fun _ _ _ _ _ _ => er_ret rfl rfl⟩
set_option maxRecDepth 100000 in
/-- TwoStepOutputsModel.told(I)I -/
theorem r108 : (∀ (P : Nat × Nat) (l0 : Option Value) (x0 : Int32) (s : List Value) (h : am_H), am_E P 108 0 [l0, some (.int x0)] s h = am_E P 108 1 [l0, some (.int x0)] (.int x0 :: s) h) ∧
  (∀ (P : Nat × Nat) (l0 : Option Value) (l1 : Option Value) (x0 : Int32) (s : List Value) (h : am_H), am_E P 108 1 [l0, l1] (.int x0 :: s) h = if x0 = 0 then am_E P 108 52 [l0, l1] s h else if x0 = 1 then am_E P 108 57 [l0, l1] s h else if x0 = 2 then am_E P 108 62 [l0, l1] s h else if x0 = 3 then am_E P 108 67 [l0, l1] s h else if x0 = 4 then am_E P 108 72 [l0, l1] s h else if x0 = 5 then am_E P 108 85 [l0, l1] s h else if x0 = 6 then am_E P 108 98 [l0, l1] s h else if x0 = 7 then am_E P 108 103 [l0, l1] s h else if x0 = 8 then am_E P 108 108 [l0, l1] s h else am_E P 108 113 [l0, l1] s h) ∧
  (∀ (P : Nat × Nat) (l1 : Option Value) (a0 : Nat) (s : List Value) (h : am_H), am_E P 108 52 [some (.ref a0), l1] s h = am_E P 108 53 [some (.ref a0), l1] (.ref a0 :: s) h) ∧
  (∀ (P : Nat × Nat) (l1 : Option Value) (s : List Value) (h : am_H), am_E P 108 52 [some .null, l1] s h = am_E P 108 53 [some .null, l1] (.null :: s) h) ∧
  (∀ (P : Nat × Nat) (l0 : Option Value) (l1 : Option Value) (a0 : Nat) (s : List Value) (h : am_H), am_E P 108 53 [l0, l1] (.ref a0 :: s) h = (am_g1 h a0 9 0).bind (fun v => am_E P 108 56 [l0, l1] (v :: s) h)) ∧
  (∀ (P : Nat × Nat) (l0 : Option Value) (l1 : Option Value) (x0 : Int32) (h : am_H), am_E P 108 56 [l0, l1] [.int x0] h = some (some (.int x0), h)) ∧
  (∀ (P : Nat × Nat) (l1 : Option Value) (a0 : Nat) (s : List Value) (h : am_H), am_E P 108 57 [some (.ref a0), l1] s h = am_E P 108 58 [some (.ref a0), l1] (.ref a0 :: s) h) ∧
  (∀ (P : Nat × Nat) (l1 : Option Value) (s : List Value) (h : am_H), am_E P 108 57 [some .null, l1] s h = am_E P 108 58 [some .null, l1] (.null :: s) h) ∧
  (∀ (P : Nat × Nat) (l0 : Option Value) (l1 : Option Value) (a0 : Nat) (s : List Value) (h : am_H), am_E P 108 58 [l0, l1] (.ref a0 :: s) h = (am_g1 h a0 9 8).bind (fun v => am_E P 108 61 [l0, l1] (v :: s) h)) ∧
  (∀ (P : Nat × Nat) (l0 : Option Value) (l1 : Option Value) (x0 : Int32) (h : am_H), am_E P 108 61 [l0, l1] [.int x0] h = some (some (.int x0), h)) ∧
  (∀ (P : Nat × Nat) (l1 : Option Value) (a0 : Nat) (s : List Value) (h : am_H), am_E P 108 62 [some (.ref a0), l1] s h = am_E P 108 63 [some (.ref a0), l1] (.ref a0 :: s) h) ∧
  (∀ (P : Nat × Nat) (l1 : Option Value) (s : List Value) (h : am_H), am_E P 108 62 [some .null, l1] s h = am_E P 108 63 [some .null, l1] (.null :: s) h) ∧
  (∀ (P : Nat × Nat) (l0 : Option Value) (l1 : Option Value) (a0 : Nat) (s : List Value) (h : am_H), am_E P 108 63 [l0, l1] (.ref a0 :: s) h = (am_g1 h a0 9 25).bind (fun v => am_E P 108 66 [l0, l1] (v :: s) h)) ∧
  (∀ (P : Nat × Nat) (l0 : Option Value) (l1 : Option Value) (x0 : Int32) (h : am_H), am_E P 108 66 [l0, l1] [.int x0] h = some (some (.int x0), h)) ∧
  (∀ (P : Nat × Nat) (l1 : Option Value) (a0 : Nat) (s : List Value) (h : am_H), am_E P 108 67 [some (.ref a0), l1] s h = am_E P 108 68 [some (.ref a0), l1] (.ref a0 :: s) h) ∧
  (∀ (P : Nat × Nat) (l1 : Option Value) (s : List Value) (h : am_H), am_E P 108 67 [some .null, l1] s h = am_E P 108 68 [some .null, l1] (.null :: s) h) ∧
  (∀ (P : Nat × Nat) (l0 : Option Value) (l1 : Option Value) (a0 : Nat) (h : am_H), am_E P 108 68 [l0, l1] [.ref a0] h = if am_cls h a0 = some 9 then (am_E P 84 0 [some (.ref a0)] [] h).bind (fun q => am_E P 108 71 [l0, l1] (q.1.toList ++ []) q.2) else none) ∧
  (∀ (P : Nat × Nat) (l0 : Option Value) (l1 : Option Value) (x0 : Int32) (h : am_H), am_E P 108 71 [l0, l1] [.int x0] h = some (some (.int x0), h)) ∧
  (∀ (P : Nat × Nat) (l1 : Option Value) (a0 : Nat) (s : List Value) (h : am_H), am_E P 108 72 [some (.ref a0), l1] s h = am_E P 108 73 [some (.ref a0), l1] (.ref a0 :: s) h) ∧
  (∀ (P : Nat × Nat) (l1 : Option Value) (s : List Value) (h : am_H), am_E P 108 72 [some .null, l1] s h = am_E P 108 73 [some .null, l1] (.null :: s) h) ∧
  (∀ (P : Nat × Nat) (l0 : Option Value) (l1 : Option Value) (a0 : Nat) (s : List Value) (h : am_H), am_E P 108 73 [l0, l1] (.ref a0 :: s) h = (am_g1 h a0 9 29).bind (fun v => am_E P 108 76 [l0, l1] (v :: s) h)) ∧
  (∀ (P : Nat × Nat) (l0 : Option Value) (l1 : Option Value) (x0 : Int32) (s : List Value) (h : am_H), am_E P 108 76 [l0, l1] (.int x0 :: s) h = if x0 = 0 then am_E P 108 83 [l0, l1] s h else am_E P 108 79 [l0, l1] s h) ∧
  (∀ (P : Nat × Nat) (l0 : Option Value) (l1 : Option Value) (s : List Value) (h : am_H), am_E P 108 79 [l0, l1] s h = am_E P 108 80 [l0, l1] (.int 1 :: s) h) ∧
  (∀ (P : Nat × Nat) (l0 : Option Value) (l1 : Option Value) (s : List Value) (h : am_H), am_E P 108 80 [l0, l1] s h = am_E P 108 84 [l0, l1] s h) ∧
  (∀ (P : Nat × Nat) (l0 : Option Value) (l1 : Option Value) (s : List Value) (h : am_H), am_E P 108 83 [l0, l1] s h = am_E P 108 84 [l0, l1] (.int 0 :: s) h) ∧
  (∀ (P : Nat × Nat) (l0 : Option Value) (l1 : Option Value) (x0 : Int32) (h : am_H), am_E P 108 84 [l0, l1] [.int x0] h = some (some (.int x0), h)) ∧
  (∀ (P : Nat × Nat) (l1 : Option Value) (a0 : Nat) (s : List Value) (h : am_H), am_E P 108 85 [some (.ref a0), l1] s h = am_E P 108 86 [some (.ref a0), l1] (.ref a0 :: s) h) ∧
  (∀ (P : Nat × Nat) (l1 : Option Value) (s : List Value) (h : am_H), am_E P 108 85 [some .null, l1] s h = am_E P 108 86 [some .null, l1] (.null :: s) h) ∧
  (∀ (P : Nat × Nat) (l0 : Option Value) (l1 : Option Value) (a0 : Nat) (s : List Value) (h : am_H), am_E P 108 86 [l0, l1] (.ref a0 :: s) h = (am_g1 h a0 9 30).bind (fun v => am_E P 108 89 [l0, l1] (v :: s) h)) ∧
  (∀ (P : Nat × Nat) (l0 : Option Value) (l1 : Option Value) (x0 : Int32) (s : List Value) (h : am_H), am_E P 108 89 [l0, l1] (.int x0 :: s) h = if x0 = 0 then am_E P 108 96 [l0, l1] s h else am_E P 108 92 [l0, l1] s h) ∧
  (∀ (P : Nat × Nat) (l0 : Option Value) (l1 : Option Value) (s : List Value) (h : am_H), am_E P 108 92 [l0, l1] s h = am_E P 108 93 [l0, l1] (.int 1 :: s) h) ∧
  (∀ (P : Nat × Nat) (l0 : Option Value) (l1 : Option Value) (s : List Value) (h : am_H), am_E P 108 93 [l0, l1] s h = am_E P 108 97 [l0, l1] s h) ∧
  (∀ (P : Nat × Nat) (l0 : Option Value) (l1 : Option Value) (s : List Value) (h : am_H), am_E P 108 96 [l0, l1] s h = am_E P 108 97 [l0, l1] (.int 0 :: s) h) ∧
  (∀ (P : Nat × Nat) (l0 : Option Value) (l1 : Option Value) (x0 : Int32) (h : am_H), am_E P 108 97 [l0, l1] [.int x0] h = some (some (.int x0), h)) ∧
  (∀ (P : Nat × Nat) (l1 : Option Value) (a0 : Nat) (s : List Value) (h : am_H), am_E P 108 98 [some (.ref a0), l1] s h = am_E P 108 99 [some (.ref a0), l1] (.ref a0 :: s) h) ∧
  (∀ (P : Nat × Nat) (l1 : Option Value) (s : List Value) (h : am_H), am_E P 108 98 [some .null, l1] s h = am_E P 108 99 [some .null, l1] (.null :: s) h) ∧
  (∀ (P : Nat × Nat) (l0 : Option Value) (l1 : Option Value) (a0 : Nat) (s : List Value) (h : am_H), am_E P 108 99 [l0, l1] (.ref a0 :: s) h = (am_g1 h a0 9 32).bind (fun v => am_E P 108 102 [l0, l1] (v :: s) h)) ∧
  (∀ (P : Nat × Nat) (l0 : Option Value) (l1 : Option Value) (x0 : Int32) (h : am_H), am_E P 108 102 [l0, l1] [.int x0] h = some (some (.int x0), h)) ∧
  (∀ (P : Nat × Nat) (l1 : Option Value) (a0 : Nat) (s : List Value) (h : am_H), am_E P 108 103 [some (.ref a0), l1] s h = am_E P 108 104 [some (.ref a0), l1] (.ref a0 :: s) h) ∧
  (∀ (P : Nat × Nat) (l1 : Option Value) (s : List Value) (h : am_H), am_E P 108 103 [some .null, l1] s h = am_E P 108 104 [some .null, l1] (.null :: s) h) ∧
  (∀ (P : Nat × Nat) (l0 : Option Value) (l1 : Option Value) (a0 : Nat) (s : List Value) (h : am_H), am_E P 108 104 [l0, l1] (.ref a0 :: s) h = (am_g1 h a0 9 28).bind (fun v => am_E P 108 107 [l0, l1] (v :: s) h)) ∧
  (∀ (P : Nat × Nat) (l0 : Option Value) (l1 : Option Value) (x0 : Int32) (h : am_H), am_E P 108 107 [l0, l1] [.int x0] h = some (some (.int x0), h)) ∧
  (∀ (P : Nat × Nat) (l1 : Option Value) (a0 : Nat) (s : List Value) (h : am_H), am_E P 108 108 [some (.ref a0), l1] s h = am_E P 108 109 [some (.ref a0), l1] (.ref a0 :: s) h) ∧
  (∀ (P : Nat × Nat) (l1 : Option Value) (s : List Value) (h : am_H), am_E P 108 108 [some .null, l1] s h = am_E P 108 109 [some .null, l1] (.null :: s) h) ∧
  (∀ (P : Nat × Nat) (l0 : Option Value) (l1 : Option Value) (a0 : Nat) (s : List Value) (h : am_H), am_E P 108 109 [l0, l1] (.ref a0 :: s) h = (am_g1 h a0 9 22).bind (fun v => am_E P 108 112 [l0, l1] (v :: s) h)) ∧
  (∀ (P : Nat × Nat) (l0 : Option Value) (l1 : Option Value) (x0 : Int32) (h : am_H), am_E P 108 112 [l0, l1] [.int x0] h = some (some (.int x0), h)) ∧
  (∀ (P : Nat × Nat) (l0 : Option Value) (l1 : Option Value) (s : List Value) (h : am_H), am_E P 108 113 [l0, l1] s h = am_E P 108 115 [l0, l1] (.int (-2) :: s) h) ∧
  (∀ (P : Nat × Nat) (l0 : Option Value) (l1 : Option Value) (x0 : Int32) (h : am_H), am_E P 108 115 [l0, l1] [.int x0] h = some (some (.int x0), h)) :=
  ⟨fun _ _ _ _ _ => er_go rfl rfl,
  fun _ _ _ _ _ _ => er_sw rfl rfl rfl,
  fun _ _ _ _ _ => er_go rfl rfl,
  fun _ _ _ _ => er_go rfl rfl,
  fun _ _ _ _ _ _ => er_get1 rfl,
  fun _ _ _ _ _ => er_ret rfl rfl,
  fun _ _ _ _ _ => er_go rfl rfl,
  fun _ _ _ _ => er_go rfl rfl,
  fun _ _ _ _ _ _ => er_get1 rfl,
  fun _ _ _ _ _ => er_ret rfl rfl,
  fun _ _ _ _ _ => er_go rfl rfl,
  fun _ _ _ _ => er_go rfl rfl,
  fun _ _ _ _ _ _ => er_get1 rfl,
  fun _ _ _ _ _ => er_ret rfl rfl,
  fun _ _ _ _ _ => er_go rfl rfl,
  fun _ _ _ _ => er_go rfl rfl,
  fun _ _ _ _ _ => er_callV rfl rfl rfl rfl,
  fun _ _ _ _ _ => er_ret rfl rfl,
  fun _ _ _ _ _ => er_go rfl rfl,
  fun _ _ _ _ => er_go rfl rfl,
  fun _ _ _ _ _ _ => er_get1 rfl,
  fun _ _ _ _ _ _ => er_if_eq rfl,
  fun _ _ _ _ _ => er_go rfl rfl,
  fun _ _ _ _ _ => er_go rfl rfl,
  fun _ _ _ _ _ => er_go rfl rfl,
  fun _ _ _ _ _ => er_ret rfl rfl,
  fun _ _ _ _ _ => er_go rfl rfl,
  fun _ _ _ _ => er_go rfl rfl,
  fun _ _ _ _ _ _ => er_get1 rfl,
  fun _ _ _ _ _ _ => er_if_eq rfl,
  fun _ _ _ _ _ => er_go rfl rfl,
  fun _ _ _ _ _ => er_go rfl rfl,
  fun _ _ _ _ _ => er_go rfl rfl,
  fun _ _ _ _ _ => er_ret rfl rfl,
  fun _ _ _ _ _ => er_go rfl rfl,
  fun _ _ _ _ => er_go rfl rfl,
  fun _ _ _ _ _ _ => er_get1 rfl,
  fun _ _ _ _ _ => er_ret rfl rfl,
  fun _ _ _ _ _ => er_go rfl rfl,
  fun _ _ _ _ => er_go rfl rfl,
  fun _ _ _ _ _ _ => er_get1 rfl,
  fun _ _ _ _ _ => er_ret rfl rfl,
  fun _ _ _ _ _ => er_go rfl rfl,
  fun _ _ _ _ => er_go rfl rfl,
  fun _ _ _ _ _ _ => er_get1 rfl,
  fun _ _ _ _ _ => er_ret rfl rfl,
  fun _ _ _ _ _ => er_go rfl rfl,
  fun _ _ _ _ _ => er_ret rfl rfl⟩
set_option maxRecDepth 100000 in
/-- TwoStepOutputsModel.audit()I -/
theorem r109 : (∀ (P : Nat × Nat) (l0 : Option Value) (l1 : Option Value) (l2 : Option Value) (l3 : Option Value) (l4 : Option Value) (l5 : Option Value) (l6 : Option Value) (s : List Value) (h : am_H), am_E P 109 0 [l0, l1, l2, l3, l4, l5, l6] s h = am_E P 109 1 [l0, l1, l2, l3, l4, l5, l6] (.int 0 :: s) h) ∧
  (∀ (P : Nat × Nat) (l0 : Option Value) (l1 : Option Value) (l2 : Option Value) (l3 : Option Value) (l4 : Option Value) (l5 : Option Value) (l6 : Option Value) (x0 : Int32) (s : List Value) (h : am_H), am_E P 109 1 [l0, l1, l2, l3, l4, l5, l6] (.int x0 :: s) h = am_E P 109 2 [l0, some (.int x0), l2, l3, l4, l5, l6] s h) ∧
  (∀ (P : Nat × Nat) (l0 : Option Value) (l1 : Option Value) (l2 : Option Value) (l3 : Option Value) (l4 : Option Value) (l5 : Option Value) (l6 : Option Value) (s : List Value) (h : am_H), am_E P 109 2 [l0, l1, l2, l3, l4, l5, l6] s h = am_E P 109 3 [l0, l1, l2, l3, l4, l5, l6] (.int 0 :: s) h) ∧
  (∀ (P : Nat × Nat) (l0 : Option Value) (l1 : Option Value) (l2 : Option Value) (l3 : Option Value) (l4 : Option Value) (l5 : Option Value) (l6 : Option Value) (x0 : Int32) (s : List Value) (h : am_H), am_E P 109 3 [l0, l1, l2, l3, l4, l5, l6] (.int x0 :: s) h = am_E P 109 4 [l0, l1, some (.int x0), l3, l4, l5, l6] s h) ∧
  (∀ (P : Nat × Nat) (l1 : Option Value) (l2 : Option Value) (l3 : Option Value) (l4 : Option Value) (l5 : Option Value) (l6 : Option Value) (a0 : Nat) (s : List Value) (h : am_H), am_E P 109 5 [some (.ref a0), l1, l2, l3, l4, l5, l6] s h = am_E P 109 6 [some (.ref a0), l1, l2, l3, l4, l5, l6] (.ref a0 :: s) h) ∧
  (∀ (P : Nat × Nat) (l1 : Option Value) (l2 : Option Value) (l3 : Option Value) (l4 : Option Value) (l5 : Option Value) (l6 : Option Value) (s : List Value) (h : am_H), am_E P 109 5 [some .null, l1, l2, l3, l4, l5, l6] s h = am_E P 109 6 [some .null, l1, l2, l3, l4, l5, l6] (.null :: s) h) ∧
  (∀ (P : Nat × Nat) (l0 : Option Value) (l1 : Option Value) (l2 : Option Value) (l3 : Option Value) (l4 : Option Value) (l5 : Option Value) (l6 : Option Value) (a0 : Nat) (s : List Value) (h : am_H), am_E P 109 6 [l0, l1, l2, l3, l4, l5, l6] (.ref a0 :: s) h = (am_g1 h a0 9 0).bind (fun v => am_E P 109 9 [l0, l1, l2, l3, l4, l5, l6] (v :: s) h)) ∧
  (∀ (P : Nat × Nat) (l0 : Option Value) (l1 : Option Value) (l2 : Option Value) (l3 : Option Value) (l4 : Option Value) (l5 : Option Value) (l6 : Option Value) (x0 : Int32) (x1 : Int32) (s : List Value) (h : am_H), am_E P 109 9 [l0, l1, l2, l3, l4, l5, l6] (.int x1 :: .int x0 :: s) h = if x1 ≤ x0 then am_E P 109 189 [l0, l1, l2, l3, l4, l5, l6] s h else am_E P 109 12 [l0, l1, l2, l3, l4, l5, l6] s h) ∧
  (∀ (P : Nat × Nat) (l0 : Option Value) (l1 : Option Value) (l3 : Option Value) (l4 : Option Value) (l5 : Option Value) (l6 : Option Value) (x0 : Int32) (s : List Value) (h : am_H), am_E P 109 12 [l0, l1, some (.int x0), l3, l4, l5, l6] s h = am_E P 109 13 [l0, l1, some (.int x0), l3, l4, l5, l6] (.int x0 :: s) h) ∧
  (∀ (P : Nat × Nat) (l0 : Option Value) (l1 : Option Value) (l2 : Option Value) (l3 : Option Value) (l4 : Option Value) (l5 : Option Value) (l6 : Option Value) (s : List Value) (h : am_H), am_E P 109 13 [l0, l1, l2, l3, l4, l5, l6] s h = am_E P 109 15 [l0, l1, l2, l3, l4, l5, l6] (.int 100 :: s) h) ∧
  (∀ (P : Nat × Nat) (l0 : Option Value) (l1 : Option Value) (l2 : Option Value) (l3 : Option Value) (l4 : Option Value) (l5 : Option Value) (l6 : Option Value) (x0 : Int32) (x1 : Int32) (s : List Value) (h : am_H), am_E P 109 15 [l0, l1, l2, l3, l4, l5, l6] (.int x1 :: .int x0 :: s) h = am_E P 109 16 [l0, l1, l2, l3, l4, l5, l6] (.int (x0 * x1) :: s) h) ∧
  (∀ (P : Nat × Nat) (l0 : Option Value) (l1 : Option Value) (l2 : Option Value) (l3 : Option Value) (l4 : Option Value) (l5 : Option Value) (l6 : Option Value) (s : List Value) (h : am_H), am_E P 109 16 [l0, l1, l2, l3, l4, l5, l6] s h = am_E P 109 18 [l0, l1, l2, l3, l4, l5, l6] (.int 20 :: s) h) ∧
  (∀ (P : Nat × Nat) (l0 : Option Value) (l1 : Option Value) (l2 : Option Value) (l3 : Option Value) (l4 : Option Value) (l5 : Option Value) (l6 : Option Value) (x0 : Int32) (x1 : Int32) (s : List Value) (h : am_H), am_E P 109 18 [l0, l1, l2, l3, l4, l5, l6] (.int x1 :: .int x0 :: s) h = am_E P 109 19 [l0, l1, l2, l3, l4, l5, l6] (.int (x0 * x1) :: s) h) ∧
  (∀ (P : Nat × Nat) (l0 : Option Value) (l1 : Option Value) (l2 : Option Value) (l3 : Option Value) (l4 : Option Value) (l5 : Option Value) (l6 : Option Value) (x0 : Int32) (s : List Value) (h : am_H), am_E P 109 19 [l0, l1, l2, l3, l4, l5, l6] (.int x0 :: s) h = am_E P 109 20 [l0, l1, l2, some (.int x0), l4, l5, l6] s h) ∧
  (∀ (P : Nat × Nat) (l0 : Option Value) (l1 : Option Value) (l2 : Option Value) (l4 : Option Value) (l5 : Option Value) (l6 : Option Value) (x0 : Int32) (s : List Value) (h : am_H), am_E P 109 20 [l0, l1, l2, some (.int x0), l4, l5, l6] s h = am_E P 109 21 [l0, l1, l2, some (.int x0), l4, l5, l6] (.int x0 :: s) h) ∧
  (∀ (P : Nat × Nat) (l0 : Option Value) (l1 : Option Value) (l2 : Option Value) (l3 : Option Value) (l4 : Option Value) (l5 : Option Value) (l6 : Option Value) (x0 : Int32) (s : List Value) (h : am_H), am_E P 109 21 [l0, l1, l2, l3, l4, l5, l6] (.int x0 :: s) h = am_E P 109 23 [l0, l1, l2, l3, some (.int x0), l5, l6] s h) ∧
  (∀ (P : Nat × Nat) (l0 : Option Value) (l1 : Option Value) (l2 : Option Value) (l4 : Option Value) (l5 : Option Value) (l6 : Option Value) (x0 : Int32) (s : List Value) (h : am_H), am_E P 109 25 [l0, l1, l2, some (.int x0), l4, l5, l6] s h = am_E P 109 26 [l0, l1, l2, some (.int x0), l4, l5, l6] (.int x0 :: s) h) ∧
  (∀ (P : Nat × Nat) (l1 : Option Value) (l2 : Option Value) (l3 : Option Value) (l4 : Option Value) (l5 : Option Value) (l6 : Option Value) (a0 : Nat) (s : List Value) (h : am_H), am_E P 109 26 [some (.ref a0), l1, l2, l3, l4, l5, l6] s h = am_E P 109 27 [some (.ref a0), l1, l2, l3, l4, l5, l6] (.ref a0 :: s) h) ∧
  (∀ (P : Nat × Nat) (l1 : Option Value) (l2 : Option Value) (l3 : Option Value) (l4 : Option Value) (l5 : Option Value) (l6 : Option Value) (s : List Value) (h : am_H), am_E P 109 26 [some .null, l1, l2, l3, l4, l5, l6] s h = am_E P 109 27 [some .null, l1, l2, l3, l4, l5, l6] (.null :: s) h) ∧
  (∀ (P : Nat × Nat) (l0 : Option Value) (l1 : Option Value) (l2 : Option Value) (l3 : Option Value) (l4 : Option Value) (l5 : Option Value) (l6 : Option Value) (a0 : Nat) (s : List Value) (h : am_H), am_E P 109 27 [l0, l1, l2, l3, l4, l5, l6] (.ref a0 :: s) h = (am_g1 h a0 9 14).bind (fun v => am_E P 109 30 [l0, l1, l2, l3, l4, l5, l6] (v :: s) h)) ∧
  (∀ (P : Nat × Nat) (l0 : Option Value) (l1 : Option Value) (l3 : Option Value) (l4 : Option Value) (l5 : Option Value) (l6 : Option Value) (x0 : Int32) (s : List Value) (h : am_H), am_E P 109 30 [l0, l1, some (.int x0), l3, l4, l5, l6] s h = am_E P 109 31 [l0, l1, some (.int x0), l3, l4, l5, l6] (.int x0 :: s) h) ∧
  (∀ (P : Nat × Nat) (l0 : Option Value) (l1 : Option Value) (l2 : Option Value) (l3 : Option Value) (l4 : Option Value) (l5 : Option Value) (l6 : Option Value) (x0 : Int32) (a0 : Nat) (s : List Value) (h : am_H), am_E P 109 31 [l0, l1, l2, l3, l4, l5, l6] (.int x0 :: .ref a0 :: s) h = (am_iald h a0 x0).bind (fun v => am_E P 109 32 [l0, l1, l2, l3, l4, l5, l6] (.int v :: s) h)) ∧
  (∀ (P : Nat × Nat) (l0 : Option Value) (l1 : Option Value) (l2 : Option Value) (l3 : Option Value) (l4 : Option Value) (l5 : Option Value) (l6 : Option Value) (x0 : Int32) (x1 : Int32) (s : List Value) (h : am_H), am_E P 109 32 [l0, l1, l2, l3, l4, l5, l6] (.int x1 :: .int x0 :: s) h = am_E P 109 33 [l0, l1, l2, l3, l4, l5, l6] (.int (x0 + x1) :: s) h) ∧
  (∀ (P : Nat × Nat) (l0 : Option Value) (l1 : Option Value) (l2 : Option Value) (l3 : Option Value) (l4 : Option Value) (l5 : Option Value) (l6 : Option Value) (x0 : Int32) (x1 : Int32) (s : List Value) (h : am_H), am_E P 109 33 [l0, l1, l2, l3, l4, l5, l6] (.int x1 :: .int x0 :: s) h = if x1 ≤ x0 then am_E P 109 138 [l0, l1, l2, l3, l4, l5, l6] s h else am_E P 109 36 [l0, l1, l2, l3, l4, l5, l6] s h) ∧
  (∀ (P : Nat × Nat) (l1 : Option Value) (l2 : Option Value) (l3 : Option Value) (l4 : Option Value) (l5 : Option Value) (l6 : Option Value) (a0 : Nat) (s : List Value) (h : am_H), am_E P 109 36 [some (.ref a0), l1, l2, l3, l4, l5, l6] s h = am_E P 109 37 [some (.ref a0), l1, l2, l3, l4, l5, l6] (.ref a0 :: s) h) ∧
  (∀ (P : Nat × Nat) (l1 : Option Value) (l2 : Option Value) (l3 : Option Value) (l4 : Option Value) (l5 : Option Value) (l6 : Option Value) (s : List Value) (h : am_H), am_E P 109 36 [some .null, l1, l2, l3, l4, l5, l6] s h = am_E P 109 37 [some .null, l1, l2, l3, l4, l5, l6] (.null :: s) h) ∧
  (∀ (P : Nat × Nat) (l0 : Option Value) (l1 : Option Value) (l3 : Option Value) (l4 : Option Value) (l5 : Option Value) (l6 : Option Value) (x0 : Int32) (s : List Value) (h : am_H), am_E P 109 37 [l0, l1, some (.int x0), l3, l4, l5, l6] s h = am_E P 109 38 [l0, l1, some (.int x0), l3, l4, l5, l6] (.int x0 :: s) h) ∧
  (∀ (P : Nat × Nat) (l1 : Option Value) (l2 : Option Value) (l3 : Option Value) (l4 : Option Value) (l5 : Option Value) (l6 : Option Value) (a0 : Nat) (s : List Value) (h : am_H), am_E P 109 38 [some (.ref a0), l1, l2, l3, l4, l5, l6] s h = am_E P 109 39 [some (.ref a0), l1, l2, l3, l4, l5, l6] (.ref a0 :: s) h) ∧
  (∀ (P : Nat × Nat) (l1 : Option Value) (l2 : Option Value) (l3 : Option Value) (l4 : Option Value) (l5 : Option Value) (l6 : Option Value) (s : List Value) (h : am_H), am_E P 109 38 [some .null, l1, l2, l3, l4, l5, l6] s h = am_E P 109 39 [some .null, l1, l2, l3, l4, l5, l6] (.null :: s) h) ∧
  (∀ (P : Nat × Nat) (l0 : Option Value) (l1 : Option Value) (l2 : Option Value) (l3 : Option Value) (l4 : Option Value) (l5 : Option Value) (l6 : Option Value) (a0 : Nat) (s : List Value) (h : am_H), am_E P 109 39 [l0, l1, l2, l3, l4, l5, l6] (.ref a0 :: s) h = (am_g1 h a0 9 17).bind (fun v => am_E P 109 42 [l0, l1, l2, l3, l4, l5, l6] (v :: s) h)) ∧
  (∀ (P : Nat × Nat) (l0 : Option Value) (l1 : Option Value) (l2 : Option Value) (l3 : Option Value) (l5 : Option Value) (l6 : Option Value) (x0 : Int32) (s : List Value) (h : am_H), am_E P 109 42 [l0, l1, l2, l3, some (.int x0), l5, l6] s h = am_E P 109 44 [l0, l1, l2, l3, some (.int x0), l5, l6] (.int x0 :: s) h) ∧
  (∀ (P : Nat × Nat) (l0 : Option Value) (l1 : Option Value) (l2 : Option Value) (l3 : Option Value) (l4 : Option Value) (l5 : Option Value) (l6 : Option Value) (x0 : Int32) (a0 : Nat) (s : List Value) (h : am_H), am_E P 109 44 [l0, l1, l2, l3, l4, l5, l6] (.int x0 :: .ref a0 :: s) h = (am_iald h a0 x0).bind (fun v => am_E P 109 45 [l0, l1, l2, l3, l4, l5, l6] (.int v :: s) h)) ∧
  (∀ (P : Nat × Nat) (l0 : Option Value) (l1 : Option Value) (l2 : Option Value) (l3 : Option Value) (l4 : Option Value) (l5 : Option Value) (l6 : Option Value) (a0 : Nat) (x0 : Int32) (x1 : Int32) (h : am_H), am_E P 109 45 [l0, l1, l2, l3, l4, l5, l6] [.int x1, .int x0, .ref a0] h = if am_cls h a0 = some 9 then (am_E P 81 0 [some (.ref a0), some (.int x0), some (.int x1), none] [] h).bind (fun q => am_E P 109 48 [l0, l1, l2, l3, l4, l5, l6] (q.1.toList ++ []) q.2) else none) ∧
  (∀ (P : Nat × Nat) (l0 : Option Value) (l1 : Option Value) (l2 : Option Value) (l3 : Option Value) (l4 : Option Value) (l5 : Option Value) (l6 : Option Value) (x0 : Int32) (s : List Value) (h : am_H), am_E P 109 48 [l0, l1, l2, l3, l4, l5, l6] (.int x0 :: s) h = am_E P 109 50 [l0, l1, l2, l3, l4, some (.int x0), l6] s h) ∧
  (∀ (P : Nat × Nat) (l0 : Option Value) (l2 : Option Value) (l3 : Option Value) (l4 : Option Value) (l5 : Option Value) (l6 : Option Value) (x0 : Int32) (s : List Value) (h : am_H), am_E P 109 50 [l0, some (.int x0), l2, l3, l4, l5, l6] s h = am_E P 109 51 [l0, some (.int x0), l2, l3, l4, l5, l6] (.int x0 :: s) h) ∧
  (∀ (P : Nat × Nat) (l0 : Option Value) (l1 : Option Value) (l2 : Option Value) (l3 : Option Value) (l4 : Option Value) (l6 : Option Value) (x0 : Int32) (s : List Value) (h : am_H), am_E P 109 51 [l0, l1, l2, l3, l4, some (.int x0), l6] s h = am_E P 109 53 [l0, l1, l2, l3, l4, some (.int x0), l6] (.int x0 :: s) h) ∧
  (∀ (P : Nat × Nat) (l0 : Option Value) (l1 : Option Value) (l2 : Option Value) (l3 : Option Value) (l4 : Option Value) (l5 : Option Value) (l6 : Option Value) (s : List Value) (h : am_H), am_E P 109 53 [l0, l1, l2, l3, l4, l5, l6] s h = am_E P 109 55 [l0, l1, l2, l3, l4, l5, l6] (.int (-6) :: s) h) ∧
  (∀ (P : Nat × Nat) (l0 : Option Value) (l1 : Option Value) (l2 : Option Value) (l3 : Option Value) (l4 : Option Value) (l5 : Option Value) (l6 : Option Value) (x0 : Int32) (x1 : Int32) (s : List Value) (h : am_H), am_E P 109 55 [l0, l1, l2, l3, l4, l5, l6] (.int x1 :: .int x0 :: s) h = if x0 = x1 then am_E P 109 67 [l0, l1, l2, l3, l4, l5, l6] s h else am_E P 109 58 [l0, l1, l2, l3, l4, l5, l6] s h) ∧
  (∀ (P : Nat × Nat) (l0 : Option Value) (l1 : Option Value) (l2 : Option Value) (l3 : Option Value) (l4 : Option Value) (l6 : Option Value) (x0 : Int32) (s : List Value) (h : am_H), am_E P 109 58 [l0, l1, l2, l3, l4, some (.int x0), l6] s h = am_E P 109 60 [l0, l1, l2, l3, l4, some (.int x0), l6] (.int x0 :: s) h) ∧
  (∀ (P : Nat × Nat) (l1 : Option Value) (l2 : Option Value) (l3 : Option Value) (l4 : Option Value) (l5 : Option Value) (l6 : Option Value) (a0 : Nat) (s : List Value) (h : am_H), am_E P 109 60 [some (.ref a0), l1, l2, l3, l4, l5, l6] s h = am_E P 109 61 [some (.ref a0), l1, l2, l3, l4, l5, l6] (.ref a0 :: s) h) ∧
  (∀ (P : Nat × Nat) (l1 : Option Value) (l2 : Option Value) (l3 : Option Value) (l4 : Option Value) (l5 : Option Value) (l6 : Option Value) (s : List Value) (h : am_H), am_E P 109 60 [some .null, l1, l2, l3, l4, l5, l6] s h = am_E P 109 61 [some .null, l1, l2, l3, l4, l5, l6] (.null :: s) h) ∧
  (∀ (P : Nat × Nat) (l0 : Option Value) (l1 : Option Value) (l2 : Option Value) (l3 : Option Value) (l4 : Option Value) (l5 : Option Value) (l6 : Option Value) (a0 : Nat) (s : List Value) (h : am_H), am_E P 109 61 [l0, l1, l2, l3, l4, l5, l6] (.ref a0 :: s) h = (am_g1 h a0 9 25).bind (fun v => am_E P 109 64 [l0, l1, l2, l3, l4, l5, l6] (v :: s) h)) ∧
  (∀ (P : Nat × Nat) (l0 : Option Value) (l1 : Option Value) (l2 : Option Value) (l3 : Option Value) (l4 : Option Value) (l5 : Option Value) (l6 : Option Value) (x0 : Int32) (x1 : Int32) (s : List Value) (h : am_H), am_E P 109 64 [l0, l1, l2, l3, l4, l5, l6] (.int x1 :: .int x0 :: s) h = if x0 ≤ x1 then am_E P 109 71 [l0, l1, l2, l3, l4, l5, l6] s h else am_E P 109 67 [l0, l1, l2, l3, l4, l5, l6] s h) ∧
  (∀ (P : Nat × Nat) (l0 : Option Value) (l1 : Option Value) (l2 : Option Value) (l3 : Option Value) (l4 : Option Value) (l5 : Option Value) (l6 : Option Value) (s : List Value) (h : am_H), am_E P 109 67 [l0, l1, l2, l3, l4, l5, l6] s h = am_E P 109 68 [l0, l1, l2, l3, l4, l5, l6] (.int 1 :: s) h) ∧
  (∀ (P : Nat × Nat) (l0 : Option Value) (l1 : Option Value) (l2 : Option Value) (l3 : Option Value) (l4 : Option Value) (l5 : Option Value) (l6 : Option Value) (s : List Value) (h : am_H), am_E P 109 68 [l0, l1, l2, l3, l4, l5, l6] s h = am_E P 109 72 [l0, l1, l2, l3, l4, l5, l6] s h) ∧
  (∀ (P : Nat × Nat) (l0 : Option Value) (l1 : Option Value) (l2 : Option Value) (l3 : Option Value) (l4 : Option Value) (l5 : Option Value) (l6 : Option Value) (s : List Value) (h : am_H), am_E P 109 71 [l0, l1, l2, l3, l4, l5, l6] s h = am_E P 109 72 [l0, l1, l2, l3, l4, l5, l6] (.int 0 :: s) h) ∧
  (∀ (P : Nat × Nat) (l0 : Option Value) (l1 : Option Value) (l2 : Option Value) (l3 : Option Value) (l4 : Option Value) (l5 : Option Value) (l6 : Option Value) (x0 : Int32) (x1 : Int32) (s : List Value) (h : am_H), am_E P 109 72 [l0, l1, l2, l3, l4, l5, l6] (.int x1 :: .int x0 :: s) h = am_E P 109 73 [l0, l1, l2, l3, l4, l5, l6] (.int (x0 + x1) :: s) h) ∧
  (∀ (P : Nat × Nat) (l0 : Option Value) (l1 : Option Value) (l2 : Option Value) (l3 : Option Value) (l4 : Option Value) (l5 : Option Value) (l6 : Option Value) (x0 : Int32) (s : List Value) (h : am_H), am_E P 109 73 [l0, l1, l2, l3, l4, l5, l6] (.int x0 :: s) h = am_E P 109 74 [l0, some (.int x0), l2, l3, l4, l5, l6] s h) ∧
  (∀ (P : Nat × Nat) (l0 : Option Value) (l1 : Option Value) (l2 : Option Value) (l4 : Option Value) (l5 : Option Value) (l6 : Option Value) (x0 : Int32) (s : List Value) (h : am_H), am_E P 109 74 [l0, l1, l2, some (.int x0), l4, l5, l6] s h = am_E P 109 75 [l0, l1, l2, some (.int x0), l4, l5, l6] (.int x0 :: s) h) ∧
  (∀ (P : Nat × Nat) (l0 : Option Value) (l1 : Option Value) (l2 : Option Value) (l3 : Option Value) (l4 : Option Value) (l5 : Option Value) (l6 : Option Value) (x0 : Int32) (s : List Value) (h : am_H), am_E P 109 75 [l0, l1, l2, l3, l4, l5, l6] (.int x0 :: s) h = am_E P 109 77 [l0, l1, l2, l3, l4, l5, some (.int x0)] s h) ∧
  (∀ (P : Nat × Nat) (l0 : Option Value) (l1 : Option Value) (l2 : Option Value) (l3 : Option Value) (l5 : Option Value) (l6 : Option Value) (x0 : Int32) (s : List Value) (h : am_H), am_E P 109 79 [l0, l1, l2, l3, some (.int x0), l5, l6] s h = am_E P 109 81 [l0, l1, l2, l3, some (.int x0), l5, l6] (.int x0 :: s) h) ∧
  (∀ (P : Nat × Nat) (l0 : Option Value) (l1 : Option Value) (l2 : Option Value) (l3 : Option Value) (l4 : Option Value) (l5 : Option Value) (l6 : Option Value) (x0 : Int32) (x1 : Int32) (s : List Value) (h : am_H), am_E P 109 81 [l0, l1, l2, l3, l4, l5, l6] (.int x1 :: .int x0 :: s) h = if x1 ≤ x0 then am_E P 109 132 [l0, l1, l2, l3, l4, l5, l6] s h else am_E P 109 84 [l0, l1, l2, l3, l4, l5, l6] s h) ∧
  (∀ (P : Nat × Nat) (l0 : Option Value) (l2 : Option Value) (l3 : Option Value) (l4 : Option Value) (l5 : Option Value) (l6 : Option Value) (x0 : Int32) (s : List Value) (h : am_H), am_E P 109 84 [l0, some (.int x0), l2, l3, l4, l5, l6] s h = am_E P 109 85 [l0, some (.int x0), l2, l3, l4, l5, l6] (.int x0 :: s) h) ∧
  (∀ (P : Nat × Nat) (l1 : Option Value) (l2 : Option Value) (l3 : Option Value) (l4 : Option Value) (l5 : Option Value) (l6 : Option Value) (a0 : Nat) (s : List Value) (h : am_H), am_E P 109 85 [some (.ref a0), l1, l2, l3, l4, l5, l6] s h = am_E P 109 86 [some (.ref a0), l1, l2, l3, l4, l5, l6] (.ref a0 :: s) h) ∧
  (∀ (P : Nat × Nat) (l1 : Option Value) (l2 : Option Value) (l3 : Option Value) (l4 : Option Value) (l5 : Option Value) (l6 : Option Value) (s : List Value) (h : am_H), am_E P 109 85 [some .null, l1, l2, l3, l4, l5, l6] s h = am_E P 109 86 [some .null, l1, l2, l3, l4, l5, l6] (.null :: s) h) ∧
  (∀ (P : Nat × Nat) (l0 : Option Value) (l1 : Option Value) (l2 : Option Value) (l3 : Option Value) (l4 : Option Value) (l5 : Option Value) (l6 : Option Value) (a0 : Nat) (s : List Value) (h : am_H), am_E P 109 86 [l0, l1, l2, l3, l4, l5, l6] (.ref a0 :: s) h = (am_g1 h a0 9 17).bind (fun v => am_E P 109 89 [l0, l1, l2, l3, l4, l5, l6] (v :: s) h)) ∧
  (∀ (P : Nat × Nat) (l0 : Option Value) (l1 : Option Value) (l2 : Option Value) (l3 : Option Value) (l4 : Option Value) (l5 : Option Value) (x0 : Int32) (s : List Value) (h : am_H), am_E P 109 89 [l0, l1, l2, l3, l4, l5, some (.int x0)] s h = am_E P 109 91 [l0, l1, l2, l3, l4, l5, some (.int x0)] (.int x0 :: s) h) ∧
  (∀ (P : Nat × Nat) (l0 : Option Value) (l1 : Option Value) (l2 : Option Value) (l3 : Option Value) (l4 : Option Value) (l5 : Option Value) (l6 : Option Value) (x0 : Int32) (a0 : Nat) (s : List Value) (h : am_H), am_E P 109 91 [l0, l1, l2, l3, l4, l5, l6] (.int x0 :: .ref a0 :: s) h = (am_iald h a0 x0).bind (fun v => am_E P 109 92 [l0, l1, l2, l3, l4, l5, l6] (.int v :: s) h)) ∧
  (∀ (P : Nat × Nat) (l1 : Option Value) (l2 : Option Value) (l3 : Option Value) (l4 : Option Value) (l5 : Option Value) (l6 : Option Value) (a0 : Nat) (s : List Value) (h : am_H), am_E P 109 92 [some (.ref a0), l1, l2, l3, l4, l5, l6] s h = am_E P 109 93 [some (.ref a0), l1, l2, l3, l4, l5, l6] (.ref a0 :: s) h) ∧
  (∀ (P : Nat × Nat) (l1 : Option Value) (l2 : Option Value) (l3 : Option Value) (l4 : Option Value) (l5 : Option Value) (l6 : Option Value) (s : List Value) (h : am_H), am_E P 109 92 [some .null, l1, l2, l3, l4, l5, l6] s h = am_E P 109 93 [some .null, l1, l2, l3, l4, l5, l6] (.null :: s) h) ∧
  (∀ (P : Nat × Nat) (l0 : Option Value) (l1 : Option Value) (l2 : Option Value) (l3 : Option Value) (l4 : Option Value) (l5 : Option Value) (l6 : Option Value) (a0 : Nat) (s : List Value) (h : am_H), am_E P 109 93 [l0, l1, l2, l3, l4, l5, l6] (.ref a0 :: s) h = (am_g1 h a0 9 17).bind (fun v => am_E P 109 96 [l0, l1, l2, l3, l4, l5, l6] (v :: s) h)) ∧
  (∀ (P : Nat × Nat) (l0 : Option Value) (l1 : Option Value) (l2 : Option Value) (l3 : Option Value) (l5 : Option Value) (l6 : Option Value) (x0 : Int32) (s : List Value) (h : am_H), am_E P 109 96 [l0, l1, l2, l3, some (.int x0), l5, l6] s h = am_E P 109 98 [l0, l1, l2, l3, some (.int x0), l5, l6] (.int x0 :: s) h) ∧
  (∀ (P : Nat × Nat) (l0 : Option Value) (l1 : Option Value) (l2 : Option Value) (l3 : Option Value) (l4 : Option Value) (l5 : Option Value) (l6 : Option Value) (x0 : Int32) (a0 : Nat) (s : List Value) (h : am_H), am_E P 109 98 [l0, l1, l2, l3, l4, l5, l6] (.int x0 :: .ref a0 :: s) h = (am_iald h a0 x0).bind (fun v => am_E P 109 99 [l0, l1, l2, l3, l4, l5, l6] (.int v :: s) h)) ∧
  (∀ (P : Nat × Nat) (l0 : Option Value) (l1 : Option Value) (l2 : Option Value) (l3 : Option Value) (l4 : Option Value) (l5 : Option Value) (l6 : Option Value) (x0 : Int32) (x1 : Int32) (s : List Value) (h : am_H), am_E P 109 99 [l0, l1, l2, l3, l4, l5, l6] (.int x1 :: .int x0 :: s) h = if x0 = x1 then am_E P 109 102 [l0, l1, l2, l3, l4, l5, l6] s h else am_E P 109 123 [l0, l1, l2, l3, l4, l5, l6] s h) ∧
  (∀ (P : Nat × Nat) (l1 : Option Value) (l2 : Option Value) (l3 : Option Value) (l4 : Option Value) (l5 : Option Value) (l6 : Option Value) (a0 : Nat) (s : List Value) (h : am_H), am_E P 109 102 [some (.ref a0), l1, l2, l3, l4, l5, l6] s h = am_E P 109 103 [some (.ref a0), l1, l2, l3, l4, l5, l6] (.ref a0 :: s) h) ∧
  (∀ (P : Nat × Nat) (l1 : Option Value) (l2 : Option Value) (l3 : Option Value) (l4 : Option Value) (l5 : Option Value) (l6 : Option Value) (s : List Value) (h : am_H), am_E P 109 102 [some .null, l1, l2, l3, l4, l5, l6] s h = am_E P 109 103 [some .null, l1, l2, l3, l4, l5, l6] (.null :: s) h) ∧
  (∀ (P : Nat × Nat) (l0 : Option Value) (l1 : Option Value) (l2 : Option Value) (l3 : Option Value) (l4 : Option Value) (l5 : Option Value) (l6 : Option Value) (a0 : Nat) (s : List Value) (h : am_H), am_E P 109 103 [l0, l1, l2, l3, l4, l5, l6] (.ref a0 :: s) h = (am_g1 h a0 9 18).bind (fun v => am_E P 109 106 [l0, l1, l2, l3, l4, l5, l6] (v :: s) h)) ∧
  (∀ (P : Nat × Nat) (l0 : Option Value) (l1 : Option Value) (l2 : Option Value) (l3 : Option Value) (l4 : Option Value) (l5 : Option Value) (x0 : Int32) (s : List Value) (h : am_H), am_E P 109 106 [l0, l1, l2, l3, l4, l5, some (.int x0)] s h = am_E P 109 108 [l0, l1, l2, l3, l4, l5, some (.int x0)] (.int x0 :: s) h) ∧
  (∀ (P : Nat × Nat) (l0 : Option Value) (l1 : Option Value) (l2 : Option Value) (l3 : Option Value) (l4 : Option Value) (l5 : Option Value) (l6 : Option Value) (x0 : Int32) (a0 : Nat) (s : List Value) (h : am_H), am_E P 109 108 [l0, l1, l2, l3, l4, l5, l6] (.int x0 :: .ref a0 :: s) h = (am_iald h a0 x0).bind (fun v => am_E P 109 109 [l0, l1, l2, l3, l4, l5, l6] (.int v :: s) h)) ∧
  (∀ (P : Nat × Nat) (l1 : Option Value) (l2 : Option Value) (l3 : Option Value) (l4 : Option Value) (l5 : Option Value) (l6 : Option Value) (a0 : Nat) (s : List Value) (h : am_H), am_E P 109 109 [some (.ref a0), l1, l2, l3, l4, l5, l6] s h = am_E P 109 110 [some (.ref a0), l1, l2, l3, l4, l5, l6] (.ref a0 :: s) h) ∧
  (∀ (P : Nat × Nat) (l1 : Option Value) (l2 : Option Value) (l3 : Option Value) (l4 : Option Value) (l5 : Option Value) (l6 : Option Value) (s : List Value) (h : am_H), am_E P 109 109 [some .null, l1, l2, l3, l4, l5, l6] s h = am_E P 109 110 [some .null, l1, l2, l3, l4, l5, l6] (.null :: s) h) ∧
  (∀ (P : Nat × Nat) (l0 : Option Value) (l1 : Option Value) (l2 : Option Value) (l3 : Option Value) (l4 : Option Value) (l5 : Option Value) (l6 : Option Value) (a0 : Nat) (s : List Value) (h : am_H), am_E P 109 110 [l0, l1, l2, l3, l4, l5, l6] (.ref a0 :: s) h = (am_g1 h a0 9 18).bind (fun v => am_E P 109 113 [l0, l1, l2, l3, l4, l5, l6] (v :: s) h)) ∧
  (∀ (P : Nat × Nat) (l0 : Option Value) (l1 : Option Value) (l2 : Option Value) (l3 : Option Value) (l5 : Option Value) (l6 : Option Value) (x0 : Int32) (s : List Value) (h : am_H), am_E P 109 113 [l0, l1, l2, l3, some (.int x0), l5, l6] s h = am_E P 109 115 [l0, l1, l2, l3, some (.int x0), l5, l6] (.int x0 :: s) h) ∧
  (∀ (P : Nat × Nat) (l0 : Option Value) (l1 : Option Value) (l2 : Option Value) (l3 : Option Value) (l4 : Option Value) (l5 : Option Value) (l6 : Option Value) (x0 : Int32) (a0 : Nat) (s : List Value) (h : am_H), am_E P 109 115 [l0, l1, l2, l3, l4, l5, l6] (.int x0 :: .ref a0 :: s) h = (am_iald h a0 x0).bind (fun v => am_E P 109 116 [l0, l1, l2, l3, l4, l5, l6] (.int v :: s) h)) ∧
  (∀ (P : Nat × Nat) (l0 : Option Value) (l1 : Option Value) (l2 : Option Value) (l3 : Option Value) (l4 : Option Value) (l5 : Option Value) (l6 : Option Value) (x0 : Int32) (x1 : Int32) (s : List Value) (h : am_H), am_E P 109 116 [l0, l1, l2, l3, l4, l5, l6] (.int x1 :: .int x0 :: s) h = if x0 < x1 then am_E P 109 123 [l0, l1, l2, l3, l4, l5, l6] s h else am_E P 109 119 [l0, l1, l2, l3, l4, l5, l6] s h) ∧
  (∀ (P : Nat × Nat) (l0 : Option Value) (l1 : Option Value) (l2 : Option Value) (l3 : Option Value) (l4 : Option Value) (l5 : Option Value) (l6 : Option Value) (s : List Value) (h : am_H), am_E P 109 119 [l0, l1, l2, l3, l4, l5, l6] s h = am_E P 109 120 [l0, l1, l2, l3, l4, l5, l6] (.int 1 :: s) h) ∧
  (∀ (P : Nat × Nat) (l0 : Option Value) (l1 : Option Value) (l2 : Option Value) (l3 : Option Value) (l4 : Option Value) (l5 : Option Value) (l6 : Option Value) (s : List Value) (h : am_H), am_E P 109 120 [l0, l1, l2, l3, l4, l5, l6] s h = am_E P 109 124 [l0, l1, l2, l3, l4, l5, l6] s h) ∧
  (∀ (P : Nat × Nat) (l0 : Option Value) (l1 : Option Value) (l2 : Option Value) (l3 : Option Value) (l4 : Option Value) (l5 : Option Value) (l6 : Option Value) (s : List Value) (h : am_H), am_E P 109 123 [l0, l1, l2, l3, l4, l5, l6] s h = am_E P 109 124 [l0, l1, l2, l3, l4, l5, l6] (.int 0 :: s) h) ∧
  (∀ (P : Nat × Nat) (l0 : Option Value) (l1 : Option Value) (l2 : Option Value) (l3 : Option Value) (l4 : Option Value) (l5 : Option Value) (l6 : Option Value) (x0 : Int32) (x1 : Int32) (s : List Value) (h : am_H), am_E P 109 124 [l0, l1, l2, l3, l4, l5, l6] (.int x1 :: .int x0 :: s) h = am_E P 109 125 [l0, l1, l2, l3, l4, l5, l6] (.int (x0 + x1) :: s) h) ∧
  (∀ (P : Nat × Nat) (l0 : Option Value) (l1 : Option Value) (l2 : Option Value) (l3 : Option Value) (l4 : Option Value) (l5 : Option Value) (l6 : Option Value) (x0 : Int32) (s : List Value) (h : am_H), am_E P 109 125 [l0, l1, l2, l3, l4, l5, l6] (.int x0 :: s) h = am_E P 109 126 [l0, some (.int x0), l2, l3, l4, l5, l6] s h) ∧
  (∀ (P : Nat × Nat) (l0 : Option Value) (l1 : Option Value) (l2 : Option Value) (l3 : Option Value) (l4 : Option Value) (l5 : Option Value) (x0 : Int32) (s : List Value) (h : am_H), am_E P 109 126 [l0, l1, l2, l3, l4, l5, some (.int x0)] s h = am_E P 109 129 [l0, l1, l2, l3, l4, l5, some (.int (x0 + 1))] s h) ∧
  (∀ (P : Nat × Nat) (l0 : Option Value) (l1 : Option Value) (l2 : Option Value) (l3 : Option Value) (l4 : Option Value) (l5 : Option Value) (l6 : Option Value) (s : List Value) (h : am_H), am_E P 109 129 [l0, l1, l2, l3, l4, l5, l6] s h = am_E P 109 77 [l0, l1, l2, l3, l4, l5, l6] s h) ∧
  (∀ (P : Nat × Nat) (l0 : Option Value) (l1 : Option Value) (l2 : Option Value) (l3 : Option Value) (l5 : Option Value) (l6 : Option Value) (x0 : Int32) (s : List Value) (h : am_H), am_E P 109 132 [l0, l1, l2, l3, some (.int x0), l5, l6] s h = am_E P 109 135 [l0, l1, l2, l3, some (.int (x0 + 1)), l5, l6] s h) ∧
  (∀ (P : Nat × Nat) (l0 : Option Value) (l1 : Option Value) (l2 : Option Value) (l3 : Option Value) (l4 : Option Value) (l5 : Option Value) (l6 : Option Value) (s : List Value) (h : am_H), am_E P 109 135 [l0, l1, l2, l3, l4, l5, l6] s h = am_E P 109 23 [l0, l1, l2, l3, l4, l5, l6] s h) ∧
  (∀ (P : Nat × Nat) (l0 : Option Value) (l1 : Option Value) (l2 : Option Value) (l3 : Option Value) (l4 : Option Value) (l5 : Option Value) (l6 : Option Value) (s : List Value) (h : am_H), am_E P 109 138 [l0, l1, l2, l3, l4, l5, l6] s h = am_E P 109 139 [l0, l1, l2, l3, l4, l5, l6] (.int 0 :: s) h) ∧
  (∀ (P : Nat × Nat) (l0 : Option Value) (l1 : Option Value) (l2 : Option Value) (l3 : Option Value) (l4 : Option Value) (l5 : Option Value) (l6 : Option Value) (x0 : Int32) (s : List Value) (h : am_H), am_E P 109 139 [l0, l1, l2, l3, l4, l5, l6] (.int x0 :: s) h = am_E P 109 141 [l0, l1, l2, l3, some (.int x0), l5, l6] s h) ∧
  (∀ (P : Nat × Nat) (l1 : Option Value) (l2 : Option Value) (l3 : Option Value) (l4 : Option Value) (l5 : Option Value) (l6 : Option Value) (a0 : Nat) (s : List Value) (h : am_H), am_E P 109 143 [some (.ref a0), l1, l2, l3, l4, l5, l6] s h = am_E P 109 144 [some (.ref a0), l1, l2, l3, l4, l5, l6] (.ref a0 :: s) h) ∧
  (∀ (P : Nat × Nat) (l1 : Option Value) (l2 : Option Value) (l3 : Option Value) (l4 : Option Value) (l5 : Option Value) (l6 : Option Value) (s : List Value) (h : am_H), am_E P 109 143 [some .null, l1, l2, l3, l4, l5, l6] s h = am_E P 109 144 [some .null, l1, l2, l3, l4, l5, l6] (.null :: s) h) ∧
  (∀ (P : Nat × Nat) (l0 : Option Value) (l1 : Option Value) (l2 : Option Value) (l3 : Option Value) (l4 : Option Value) (l5 : Option Value) (l6 : Option Value) (a0 : Nat) (s : List Value) (h : am_H), am_E P 109 144 [l0, l1, l2, l3, l4, l5, l6] (.ref a0 :: s) h = (am_g1 h a0 9 5).bind (fun v => am_E P 109 147 [l0, l1, l2, l3, l4, l5, l6] (v :: s) h)) ∧
  (∀ (P : Nat × Nat) (l0 : Option Value) (l1 : Option Value) (l3 : Option Value) (l4 : Option Value) (l5 : Option Value) (l6 : Option Value) (x0 : Int32) (s : List Value) (h : am_H), am_E P 109 147 [l0, l1, some (.int x0), l3, l4, l5, l6] s h = am_E P 109 148 [l0, l1, some (.int x0), l3, l4, l5, l6] (.int x0 :: s) h) ∧
  (∀ (P : Nat × Nat) (l0 : Option Value) (l1 : Option Value) (l2 : Option Value) (l3 : Option Value) (l4 : Option Value) (l5 : Option Value) (l6 : Option Value) (x0 : Int32) (a0 : Nat) (s : List Value) (h : am_H), am_E P 109 148 [l0, l1, l2, l3, l4, l5, l6] (.int x0 :: .ref a0 :: s) h = (am_iald h a0 x0).bind (fun v => am_E P 109 149 [l0, l1, l2, l3, l4, l5, l6] (.int v :: s) h)) ∧
  (∀ (P : Nat × Nat) (l0 : Option Value) (l1 : Option Value) (l2 : Option Value) (l3 : Option Value) (l4 : Option Value) (l5 : Option Value) (l6 : Option Value) (x0 : Int32) (x1 : Int32) (s : List Value) (h : am_H), am_E P 109 149 [l0, l1, l2, l3, l4, l5, l6] (.int x1 :: .int x0 :: s) h = if x1 ≤ x0 then am_E P 109 183 [l0, l1, l2, l3, l4, l5, l6] s h else am_E P 109 152 [l0, l1, l2, l3, l4, l5, l6] s h) ∧
  (∀ (P : Nat × Nat) (l0 : Option Value) (l2 : Option Value) (l3 : Option Value) (l4 : Option Value) (l5 : Option Value) (l6 : Option Value) (x0 : Int32) (s : List Value) (h : am_H), am_E P 109 152 [l0, some (.int x0), l2, l3, l4, l5, l6] s h = am_E P 109 153 [l0, some (.int x0), l2, l3, l4, l5, l6] (.int x0 :: s) h) ∧
  (∀ (P : Nat × Nat) (l1 : Option Value) (l2 : Option Value) (l3 : Option Value) (l4 : Option Value) (l5 : Option Value) (l6 : Option Value) (a0 : Nat) (s : List Value) (h : am_H), am_E P 109 153 [some (.ref a0), l1, l2, l3, l4, l5, l6] s h = am_E P 109 154 [some (.ref a0), l1, l2, l3, l4, l5, l6] (.ref a0 :: s) h) ∧
  (∀ (P : Nat × Nat) (l1 : Option Value) (l2 : Option Value) (l3 : Option Value) (l4 : Option Value) (l5 : Option Value) (l6 : Option Value) (s : List Value) (h : am_H), am_E P 109 153 [some .null, l1, l2, l3, l4, l5, l6] s h = am_E P 109 154 [some .null, l1, l2, l3, l4, l5, l6] (.null :: s) h) ∧
  (∀ (P : Nat × Nat) (l0 : Option Value) (l1 : Option Value) (l3 : Option Value) (l4 : Option Value) (l5 : Option Value) (l6 : Option Value) (x0 : Int32) (s : List Value) (h : am_H), am_E P 109 154 [l0, l1, some (.int x0), l3, l4, l5, l6] s h = am_E P 109 155 [l0, l1, some (.int x0), l3, l4, l5, l6] (.int x0 :: s) h) ∧
  (∀ (P : Nat × Nat) (l0 : Option Value) (l1 : Option Value) (l2 : Option Value) (l3 : Option Value) (l5 : Option Value) (l6 : Option Value) (x0 : Int32) (s : List Value) (h : am_H), am_E P 109 155 [l0, l1, l2, l3, some (.int x0), l5, l6] s h = am_E P 109 157 [l0, l1, l2, l3, some (.int x0), l5, l6] (.int x0 :: s) h) ∧
  (∀ (P : Nat × Nat) (l0 : Option Value) (l1 : Option Value) (l2 : Option Value) (l3 : Option Value) (l4 : Option Value) (l5 : Option Value) (l6 : Option Value) (a0 : Nat) (x0 : Int32) (x1 : Int32) (v0 : Value) (h : am_H), am_E P 109 157 [l0, l1, l2, l3, l4, l5, l6] [.int x1, .int x0, .ref a0, v0] h = if am_cls h a0 = some 9 then (am_E P 80 0 [some (.ref a0), some (.int x0), some (.int x1), none, none] [] h).bind (fun q => am_E P 109 160 [l0, l1, l2, l3, l4, l5, l6] (q.1.toList ++ [v0]) q.2) else none) ∧
  (∀ (P : Nat × Nat) (l0 : Option Value) (l1 : Option Value) (l2 : Option Value) (l3 : Option Value) (l4 : Option Value) (l5 : Option Value) (l6 : Option Value) (s : List Value) (h : am_H), am_E P 109 160 [l0, l1, l2, l3, l4, l5, l6] s h = am_E P 109 161 [l0, l1, l2, l3, l4, l5, l6] (.int 2 :: s) h) ∧
  (∀ (P : Nat × Nat) (l0 : Option Value) (l1 : Option Value) (l2 : Option Value) (l3 : Option Value) (l4 : Option Value) (l5 : Option Value) (l6 : Option Value) (x0 : Int32) (x1 : Int32) (s : List Value) (h : am_H), am_E P 109 161 [l0, l1, l2, l3, l4, l5, l6] (.int x1 :: .int x0 :: s) h = if x0 = x1 then am_E P 109 164 [l0, l1, l2, l3, l4, l5, l6] s h else am_E P 109 174 [l0, l1, l2, l3, l4, l5, l6] s h) ∧
  (∀ (P : Nat × Nat) (l1 : Option Value) (l2 : Option Value) (l3 : Option Value) (l4 : Option Value) (l5 : Option Value) (l6 : Option Value) (a0 : Nat) (s : List Value) (h : am_H), am_E P 109 164 [some (.ref a0), l1, l2, l3, l4, l5, l6] s h = am_E P 109 165 [some (.ref a0), l1, l2, l3, l4, l5, l6] (.ref a0 :: s) h) ∧
  (∀ (P : Nat × Nat) (l1 : Option Value) (l2 : Option Value) (l3 : Option Value) (l4 : Option Value) (l5 : Option Value) (l6 : Option Value) (s : List Value) (h : am_H), am_E P 109 164 [some .null, l1, l2, l3, l4, l5, l6] s h = am_E P 109 165 [some .null, l1, l2, l3, l4, l5, l6] (.null :: s) h) ∧
  (∀ (P : Nat × Nat) (l0 : Option Value) (l1 : Option Value) (l3 : Option Value) (l4 : Option Value) (l5 : Option Value) (l6 : Option Value) (x0 : Int32) (s : List Value) (h : am_H), am_E P 109 165 [l0, l1, some (.int x0), l3, l4, l5, l6] s h = am_E P 109 166 [l0, l1, some (.int x0), l3, l4, l5, l6] (.int x0 :: s) h) ∧
  (∀ (P : Nat × Nat) (l0 : Option Value) (l1 : Option Value) (l2 : Option Value) (l3 : Option Value) (l5 : Option Value) (l6 : Option Value) (x0 : Int32) (s : List Value) (h : am_H), am_E P 109 166 [l0, l1, l2, l3, some (.int x0), l5, l6] s h = am_E P 109 168 [l0, l1, l2, l3, some (.int x0), l5, l6] (.int x0 :: s) h) ∧
  (∀ (P : Nat × Nat) (l0 : Option Value) (l1 : Option Value) (l2 : Option Value) (l3 : Option Value) (l4 : Option Value) (l5 : Option Value) (l6 : Option Value) (a0 : Nat) (x0 : Int32) (x1 : Int32) (v0 : Value) (h : am_H), am_E P 109 168 [l0, l1, l2, l3, l4, l5, l6] [.int x1, .int x0, .ref a0, v0] h = if am_cls h a0 = some 9 then (am_E P 110 0 [some (.ref a0), some (.int x0), some (.int x1), none, none, none] [] h).bind (fun q => am_E P 109 171 [l0, l1, l2, l3, l4, l5, l6] (q.1.toList ++ [v0]) q.2) else none) ∧
  (∀ (P : Nat × Nat) (l0 : Option Value) (l1 : Option Value) (l2 : Option Value) (l3 : Option Value) (l4 : Option Value) (l5 : Option Value) (l6 : Option Value) (s : List Value) (h : am_H), am_E P 109 171 [l0, l1, l2, l3, l4, l5, l6] s h = am_E P 109 175 [l0, l1, l2, l3, l4, l5, l6] s h) ∧
  (∀ (P : Nat × Nat) (l0 : Option Value) (l1 : Option Value) (l2 : Option Value) (l3 : Option Value) (l4 : Option Value) (l5 : Option Value) (l6 : Option Value) (s : List Value) (h : am_H), am_E P 109 174 [l0, l1, l2, l3, l4, l5, l6] s h = am_E P 109 175 [l0, l1, l2, l3, l4, l5, l6] (.int 0 :: s) h) ∧
  (∀ (P : Nat × Nat) (l0 : Option Value) (l1 : Option Value) (l2 : Option Value) (l3 : Option Value) (l4 : Option Value) (l5 : Option Value) (l6 : Option Value) (x0 : Int32) (x1 : Int32) (s : List Value) (h : am_H), am_E P 109 175 [l0, l1, l2, l3, l4, l5, l6] (.int x1 :: .int x0 :: s) h = am_E P 109 176 [l0, l1, l2, l3, l4, l5, l6] (.int (x0 + x1) :: s) h) ∧
  (∀ (P : Nat × Nat) (l0 : Option Value) (l1 : Option Value) (l2 : Option Value) (l3 : Option Value) (l4 : Option Value) (l5 : Option Value) (l6 : Option Value) (x0 : Int32) (s : List Value) (h : am_H), am_E P 109 176 [l0, l1, l2, l3, l4, l5, l6] (.int x0 :: s) h = am_E P 109 177 [l0, some (.int x0), l2, l3, l4, l5, l6] s h) ∧
  (∀ (P : Nat × Nat) (l0 : Option Value) (l1 : Option Value) (l2 : Option Value) (l3 : Option Value) (l5 : Option Value) (l6 : Option Value) (x0 : Int32) (s : List Value) (h : am_H), am_E P 109 177 [l0, l1, l2, l3, some (.int x0), l5, l6] s h = am_E P 109 180 [l0, l1, l2, l3, some (.int (x0 + 1)), l5, l6] s h) ∧
  (∀ (P : Nat × Nat) (l0 : Option Value) (l1 : Option Value) (l2 : Option Value) (l3 : Option Value) (l4 : Option Value) (l5 : Option Value) (l6 : Option Value) (s : List Value) (h : am_H), am_E P 109 180 [l0, l1, l2, l3, l4, l5, l6] s h = am_E P 109 141 [l0, l1, l2, l3, l4, l5, l6] s h) ∧
  (∀ (P : Nat × Nat) (l0 : Option Value) (l1 : Option Value) (l3 : Option Value) (l4 : Option Value) (l5 : Option Value) (l6 : Option Value) (x0 : Int32) (s : List Value) (h : am_H), am_E P 109 183 [l0, l1, some (.int x0), l3, l4, l5, l6] s h = am_E P 109 186 [l0, l1, some (.int (x0 + 1)), l3, l4, l5, l6] s h) ∧
  (∀ (P : Nat × Nat) (l0 : Option Value) (l1 : Option Value) (l2 : Option Value) (l3 : Option Value) (l4 : Option Value) (l5 : Option Value) (l6 : Option Value) (s : List Value) (h : am_H), am_E P 109 186 [l0, l1, l2, l3, l4, l5, l6] s h = am_E P 109 4 [l0, l1, l2, l3, l4, l5, l6] s h) ∧
  (∀ (P : Nat × Nat) (l0 : Option Value) (l2 : Option Value) (l3 : Option Value) (l4 : Option Value) (l5 : Option Value) (l6 : Option Value) (x0 : Int32) (s : List Value) (h : am_H), am_E P 109 189 [l0, some (.int x0), l2, l3, l4, l5, l6] s h = am_E P 109 190 [l0, some (.int x0), l2, l3, l4, l5, l6] (.int x0 :: s) h) ∧
  (∀ (P : Nat × Nat) (l0 : Option Value) (l1 : Option Value) (l2 : Option Value) (l3 : Option Value) (l4 : Option Value) (l5 : Option Value) (l6 : Option Value) (x0 : Int32) (h : am_H), am_E P 109 190 [l0, l1, l2, l3, l4, l5, l6] [.int x0] h = some (some (.int x0), h)) :=
  ⟨fun _ _ _ _ _ _ _ _ _ _ => er_go rfl rfl,
  fun _ _ _ _ _ _ _ _ _ _ _ => er_go rfl rfl,
  fun _ _ _ _ _ _ _ _ _ _ => er_go rfl rfl,
  fun _ _ _ _ _ _ _ _ _ _ _ => er_go rfl rfl,
  fun _ _ _ _ _ _ _ _ _ _ => er_go rfl rfl,
  fun _ _ _ _ _ _ _ _ _ => er_go rfl rfl,
  fun _ _ _ _ _ _ _ _ _ _ _ => er_get1 rfl,
  fun _ _ _ _ _ _ _ _ _ _ _ _ => er_ic_ge rfl,
  fun _ _ _ _ _ _ _ _ _ _ => er_go rfl rfl,
  fun _ _ _ _ _ _ _ _ _ _ => er_go rfl rfl,
  fun _ _ _ _ _ _ _ _ _ _ _ _ => er_go rfl rfl,
  fun _ _ _ _ _ _ _ _ _ _ => er_go rfl rfl,
  fun _ _ _ _ _ _ _ _ _ _ _ _ => er_go rfl rfl,
  fun _ _ _ _ _ _ _ _ _ _ _ => er_go rfl rfl,
  fun _ _ _ _ _ _ _ _ _ _ => er_go rfl rfl,
  fun _ _ _ _ _ _ _ _ _ _ _ => er_go rfl rfl,
  fun _ _ _ _ _ _ _ _ _ _ => er_go rfl rfl,
  fun _ _ _ _ _ _ _ _ _ _ => er_go rfl rfl,
  fun _ _ _ _ _ _ _ _ _ => er_go rfl rfl,
  fun _ _ _ _ _ _ _ _ _ _ _ => er_get1 rfl,
  fun _ _ _ _ _ _ _ _ _ _ => er_go rfl rfl,
  fun _ _ _ _ _ _ _ _ _ _ _ _ => er_iald rfl,
  fun _ _ _ _ _ _ _ _ _ _ _ _ => er_go rfl rfl,
  fun _ _ _ _ _ _ _ _ _ _ _ _ => er_ic_ge rfl,
  fun _ _ _ _ _ _ _ _ _ _ => er_go rfl rfl,
  fun _ _ _ _ _ _ _ _ _ => er_go rfl rfl,
  fun _ _ _ _ _ _ _ _ _ _ => er_go rfl rfl,
  fun _ _ _ _ _ _ _ _ _ _ => er_go rfl rfl,
  fun _ _ _ _ _ _ _ _ _ => er_go rfl rfl,
  fun _ _ _ _ _ _ _ _ _ _ _ => er_get1 rfl,
  fun _ _ _ _ _ _ _ _ _ _ => er_go rfl rfl,
  fun _ _ _ _ _ _ _ _ _ _ _ _ => er_iald rfl,
  fun _ _ _ _ _ _ _ _ _ _ _ _ => er_callV rfl rfl rfl rfl,
  fun _ _ _ _ _ _ _ _ _ _ _ => er_go rfl rfl,
  fun _ _ _ _ _ _ _ _ _ _ => er_go rfl rfl,
  fun _ _ _ _ _ _ _ _ _ _ => er_go rfl rfl,
  fun _ _ _ _ _ _ _ _ _ _ => er_go rfl rfl,
  fun _ _ _ _ _ _ _ _ _ _ _ _ => er_ic_eq rfl,
  fun _ _ _ _ _ _ _ _ _ _ => er_go rfl rfl,
  fun _ _ _ _ _ _ _ _ _ _ => er_go rfl rfl,
  fun _ _ _ _ _ _ _ _ _ => er_go rfl rfl,
  fun _ _ _ _ _ _ _ _ _ _ _ => er_get1 rfl,
  fun _ _ _ _ _ _ _ _ _ _ _ _ => er_ic_le rfl,
  fun _ _ _ _ _ _ _ _ _ _ => er_go rfl rfl,
  fun _ _ _ _ _ _ _ _ _ _ => er_go rfl rfl,
  fun _ _ _ _ _ _ _ _ _ _ => er_go rfl rfl,
  fun _ _ _ _ _ _ _ _ _ _ _ _ => er_go rfl rfl,
  fun _ _ _ _ _ _ _ _ _ _ _ => er_go rfl rfl,
  fun _ _ _ _ _ _ _ _ _ _ => er_go rfl rfl,
  fun _ _ _ _ _ _ _ _ _ _ _ => er_go rfl rfl,
  fun _ _ _ _ _ _ _ _ _ _ => er_go rfl rfl,
  fun _ _ _ _ _ _ _ _ _ _ _ _ => er_ic_ge rfl,
  fun _ _ _ _ _ _ _ _ _ _ => er_go rfl rfl,
  fun _ _ _ _ _ _ _ _ _ _ => er_go rfl rfl,
  fun _ _ _ _ _ _ _ _ _ => er_go rfl rfl,
  fun _ _ _ _ _ _ _ _ _ _ _ => er_get1 rfl,
  fun _ _ _ _ _ _ _ _ _ _ => er_go rfl rfl,
  fun _ _ _ _ _ _ _ _ _ _ _ _ => er_iald rfl,
  fun _ _ _ _ _ _ _ _ _ _ => er_go rfl rfl,
  fun _ _ _ _ _ _ _ _ _ => er_go rfl rfl,
  fun _ _ _ _ _ _ _ _ _ _ _ => er_get1 rfl,
  fun _ _ _ _ _ _ _ _ _ _ => er_go rfl rfl,
  fun _ _ _ _ _ _ _ _ _ _ _ _ => er_iald rfl,
  fun _ _ _ _ _ _ _ _ _ _ _ _ => er_ic_ne rfl,
  fun _ _ _ _ _ _ _ _ _ _ => er_go rfl rfl,
  fun _ _ _ _ _ _ _ _ _ => er_go rfl rfl,
  fun _ _ _ _ _ _ _ _ _ _ _ => er_get1 rfl,
  fun _ _ _ _ _ _ _ _ _ _ => er_go rfl rfl,
  fun _ _ _ _ _ _ _ _ _ _ _ _ => er_iald rfl,
  fun _ _ _ _ _ _ _ _ _ _ => er_go rfl rfl,
  fun _ _ _ _ _ _ _ _ _ => er_go rfl rfl,
  fun _ _ _ _ _ _ _ _ _ _ _ => er_get1 rfl,
  fun _ _ _ _ _ _ _ _ _ _ => er_go rfl rfl,
  fun _ _ _ _ _ _ _ _ _ _ _ _ => er_iald rfl,
  fun _ _ _ _ _ _ _ _ _ _ _ _ => er_ic_lt rfl,
  fun _ _ _ _ _ _ _ _ _ _ => er_go rfl rfl,
  fun _ _ _ _ _ _ _ _ _ _ => er_go rfl rfl,
  fun _ _ _ _ _ _ _ _ _ _ => er_go rfl rfl,
  fun _ _ _ _ _ _ _ _ _ _ _ _ => er_go rfl rfl,
  fun _ _ _ _ _ _ _ _ _ _ _ => er_go rfl rfl,
  fun _ _ _ _ _ _ _ _ _ _ => er_go rfl rfl,
  fun _ _ _ _ _ _ _ _ _ _ => er_go rfl rfl,
  fun _ _ _ _ _ _ _ _ _ _ => er_go rfl rfl,
  fun _ _ _ _ _ _ _ _ _ _ => er_go rfl rfl,
  fun _ _ _ _ _ _ _ _ _ _ => er_go rfl rfl,
  fun _ _ _ _ _ _ _ _ _ _ _ => er_go rfl rfl,
  fun _ _ _ _ _ _ _ _ _ _ => er_go rfl rfl,
  fun _ _ _ _ _ _ _ _ _ => er_go rfl rfl,
  fun _ _ _ _ _ _ _ _ _ _ _ => er_get1 rfl,
  fun _ _ _ _ _ _ _ _ _ _ => er_go rfl rfl,
  fun _ _ _ _ _ _ _ _ _ _ _ _ => er_iald rfl,
  fun _ _ _ _ _ _ _ _ _ _ _ _ => er_ic_ge rfl,
  fun _ _ _ _ _ _ _ _ _ _ => er_go rfl rfl,
  fun _ _ _ _ _ _ _ _ _ _ => er_go rfl rfl,
  fun _ _ _ _ _ _ _ _ _ => er_go rfl rfl,
  fun _ _ _ _ _ _ _ _ _ _ => er_go rfl rfl,
  fun _ _ _ _ _ _ _ _ _ _ => er_go rfl rfl,
  fun _ _ _ _ _ _ _ _ _ _ _ _ _ => er_callV rfl rfl rfl rfl,
  fun _ _ _ _ _ _ _ _ _ _ => er_go rfl rfl,
  fun _ _ _ _ _ _ _ _ _ _ _ _ => er_ic_ne rfl,
  fun _ _ _ _ _ _ _ _ _ _ => er_go rfl rfl,
  fun _ _ _ _ _ _ _ _ _ => er_go rfl rfl,
  fun _ _ _ _ _ _ _ _ _ _ => er_go rfl rfl,
  fun _ _ _ _ _ _ _ _ _ _ => er_go rfl rfl,
  fun _ _ _ _ _ _ _ _ _ _ _ _ _ => er_callV rfl rfl rfl rfl,
  fun _ _ _ _ _ _ _ _ _ _ => er_go rfl rfl,
  fun _ _ _ _ _ _ _ _ _ _ => er_go rfl rfl,
  fun _ _ _ _ _ _ _ _ _ _ _ _ => er_go rfl rfl,
  fun _ _ _ _ _ _ _ _ _ _ _ => er_go rfl rfl,
  fun _ _ _ _ _ _ _ _ _ _ => er_go rfl rfl,
  fun _ _ _ _ _ _ _ _ _ _ => er_go rfl rfl,
  fun _ _ _ _ _ _ _ _ _ _ => er_go rfl rfl,
  fun _ _ _ _ _ _ _ _ _ _ => er_go rfl rfl,
  fun _ _ _ _ _ _ _ _ _ _ => er_go rfl rfl,
  fun _ _ _ _ _ _ _ _ _ _ => er_ret rfl rfl⟩
set_option maxRecDepth 100000 in
theorem hd109_4 : ∀ (P : Nat × Nat) (l0 : Option Value) (l1 : Option Value) (l3 : Option Value) (l4 : Option Value) (l5 : Option Value) (l6 : Option Value) (x0 : Int32) (s : List Value) (h : am_H), am_E P 109 4 [l0, l1, some (.int x0), l3, l4, l5, l6] s h = am_E P 109 5 [l0, l1, some (.int x0), l3, l4, l5, l6] (.int x0 :: s) h := fun _ _ _ _ _ _ _ _ _ _ => er_go rfl rfl
set_option maxRecDepth 100000 in
theorem hd109_23 : ∀ (P : Nat × Nat) (l0 : Option Value) (l1 : Option Value) (l2 : Option Value) (l3 : Option Value) (l5 : Option Value) (l6 : Option Value) (x0 : Int32) (s : List Value) (h : am_H), am_E P 109 23 [l0, l1, l2, l3, some (.int x0), l5, l6] s h = am_E P 109 25 [l0, l1, l2, l3, some (.int x0), l5, l6] (.int x0 :: s) h := fun _ _ _ _ _ _ _ _ _ _ => er_go rfl rfl
set_option maxRecDepth 100000 in
theorem hd109_77 : ∀ (P : Nat × Nat) (l0 : Option Value) (l1 : Option Value) (l2 : Option Value) (l3 : Option Value) (l4 : Option Value) (l5 : Option Value) (x0 : Int32) (s : List Value) (h : am_H), am_E P 109 77 [l0, l1, l2, l3, l4, l5, some (.int x0)] s h = am_E P 109 79 [l0, l1, l2, l3, l4, l5, some (.int x0)] (.int x0 :: s) h := fun _ _ _ _ _ _ _ _ _ _ => er_go rfl rfl
set_option maxRecDepth 100000 in
theorem hd109_141 : ∀ (P : Nat × Nat) (l0 : Option Value) (l1 : Option Value) (l2 : Option Value) (l3 : Option Value) (l5 : Option Value) (l6 : Option Value) (x0 : Int32) (s : List Value) (h : am_H), am_E P 109 141 [l0, l1, l2, l3, some (.int x0), l5, l6] s h = am_E P 109 143 [l0, l1, l2, l3, some (.int x0), l5, l6] (.int x0 :: s) h := fun _ _ _ _ _ _ _ _ _ _ => er_go rfl rfl
set_option maxRecDepth 100000 in
/-- TwoStepOutputsModel.lacks(II)I -/
theorem r110 : (∀ (P : Nat × Nat) (l0 : Option Value) (l1 : Option Value) (l2 : Option Value) (l3 : Option Value) (l4 : Option Value) (l5 : Option Value) (s : List Value) (h : am_H), am_E P 110 0 [l0, l1, l2, l3, l4, l5] s h = am_E P 110 1 [l0, l1, l2, l3, l4, l5] (.int 0 :: s) h) ∧
  (∀ (P : Nat × Nat) (l0 : Option Value) (l1 : Option Value) (l2 : Option Value) (l3 : Option Value) (l4 : Option Value) (l5 : Option Value) (x0 : Int32) (s : List Value) (h : am_H), am_E P 110 1 [l0, l1, l2, l3, l4, l5] (.int x0 :: s) h = am_E P 110 2 [l0, l1, l2, some (.int x0), l4, l5] s h) ∧
  (∀ (P : Nat × Nat) (l0 : Option Value) (l1 : Option Value) (l2 : Option Value) (l3 : Option Value) (l4 : Option Value) (l5 : Option Value) (s : List Value) (h : am_H), am_E P 110 2 [l0, l1, l2, l3, l4, l5] s h = am_E P 110 3 [l0, l1, l2, l3, l4, l5] (.int 0 :: s) h) ∧
  (∀ (P : Nat × Nat) (l0 : Option Value) (l1 : Option Value) (l2 : Option Value) (l3 : Option Value) (l4 : Option Value) (l5 : Option Value) (x0 : Int32) (s : List Value) (h : am_H), am_E P 110 3 [l0, l1, l2, l3, l4, l5] (.int x0 :: s) h = am_E P 110 5 [l0, l1, l2, l3, some (.int x0), l5] s h) ∧
  (∀ (P : Nat × Nat) (l0 : Option Value) (l1 : Option Value) (l2 : Option Value) (l3 : Option Value) (l4 : Option Value) (l5 : Option Value) (s : List Value) (h : am_H), am_E P 110 5 [l0, l1, l2, l3, l4, l5] s h = am_E P 110 6 [l0, l1, l2, l3, l4, l5] (.int 0 :: s) h) ∧
  (∀ (P : Nat × Nat) (l0 : Option Value) (l1 : Option Value) (l2 : Option Value) (l3 : Option Value) (l4 : Option Value) (l5 : Option Value) (x0 : Int32) (s : List Value) (h : am_H), am_E P 110 6 [l0, l1, l2, l3, l4, l5] (.int x0 :: s) h = am_E P 110 8 [l0, l1, l2, l3, l4, some (.int x0)] s h) ∧
  (∀ (P : Nat × Nat) (l1 : Option Value) (l2 : Option Value) (l3 : Option Value) (l4 : Option Value) (l5 : Option Value) (a0 : Nat) (s : List Value) (h : am_H), am_E P 110 10 [some (.ref a0), l1, l2, l3, l4, l5] s h = am_E P 110 11 [some (.ref a0), l1, l2, l3, l4, l5] (.ref a0 :: s) h) ∧
  (∀ (P : Nat × Nat) (l1 : Option Value) (l2 : Option Value) (l3 : Option Value) (l4 : Option Value) (l5 : Option Value) (s : List Value) (h : am_H), am_E P 110 10 [some .null, l1, l2, l3, l4, l5] s h = am_E P 110 11 [some .null, l1, l2, l3, l4, l5] (.null :: s) h) ∧
  (∀ (P : Nat × Nat) (l0 : Option Value) (l1 : Option Value) (l2 : Option Value) (l3 : Option Value) (l4 : Option Value) (l5 : Option Value) (a0 : Nat) (s : List Value) (h : am_H), am_E P 110 11 [l0, l1, l2, l3, l4, l5] (.ref a0 :: s) h = (am_g1 h a0 9 8).bind (fun v => am_E P 110 14 [l0, l1, l2, l3, l4, l5] (v :: s) h)) ∧
  (∀ (P : Nat × Nat) (l0 : Option Value) (l1 : Option Value) (l2 : Option Value) (l3 : Option Value) (l4 : Option Value) (l5 : Option Value) (x0 : Int32) (x1 : Int32) (s : List Value) (h : am_H), am_E P 110 14 [l0, l1, l2, l3, l4, l5] (.int x1 :: .int x0 :: s) h = if x1 ≤ x0 then am_E P 110 97 [l0, l1, l2, l3, l4, l5] s h else am_E P 110 17 [l0, l1, l2, l3, l4, l5] s h) ∧
  (∀ (P : Nat × Nat) (l1 : Option Value) (l2 : Option Value) (l3 : Option Value) (l4 : Option Value) (l5 : Option Value) (a0 : Nat) (s : List Value) (h : am_H), am_E P 110 17 [some (.ref a0), l1, l2, l3, l4, l5] s h = am_E P 110 18 [some (.ref a0), l1, l2, l3, l4, l5] (.ref a0 :: s) h) ∧
  (∀ (P : Nat × Nat) (l1 : Option Value) (l2 : Option Value) (l3 : Option Value) (l4 : Option Value) (l5 : Option Value) (s : List Value) (h : am_H), am_E P 110 17 [some .null, l1, l2, l3, l4, l5] s h = am_E P 110 18 [some .null, l1, l2, l3, l4, l5] (.null :: s) h) ∧
  (∀ (P : Nat × Nat) (l0 : Option Value) (l1 : Option Value) (l2 : Option Value) (l3 : Option Value) (l4 : Option Value) (l5 : Option Value) (a0 : Nat) (s : List Value) (h : am_H), am_E P 110 18 [l0, l1, l2, l3, l4, l5] (.ref a0 :: s) h = (am_g1 h a0 9 9).bind (fun v => am_E P 110 21 [l0, l1, l2, l3, l4, l5] (v :: s) h)) ∧
  (∀ (P : Nat × Nat) (l0 : Option Value) (l1 : Option Value) (l2 : Option Value) (l3 : Option Value) (l4 : Option Value) (x0 : Int32) (s : List Value) (h : am_H), am_E P 110 21 [l0, l1, l2, l3, l4, some (.int x0)] s h = am_E P 110 23 [l0, l1, l2, l3, l4, some (.int x0)] (.int x0 :: s) h) ∧
  (∀ (P : Nat × Nat) (l0 : Option Value) (l1 : Option Value) (l2 : Option Value) (l3 : Option Value) (l4 : Option Value) (l5 : Option Value) (x0 : Int32) (a0 : Nat) (s : List Value) (h : am_H), am_E P 110 23 [l0, l1, l2, l3, l4, l5] (.int x0 :: .ref a0 :: s) h = (am_iald h a0 x0).bind (fun v => am_E P 110 24 [l0, l1, l2, l3, l4, l5] (.int v :: s) h)) ∧
  (∀ (P : Nat × Nat) (l0 : Option Value) (l1 : Option Value) (l2 : Option Value) (l3 : Option Value) (l4 : Option Value) (l5 : Option Value) (x0 : Int32) (s : List Value) (h : am_H), am_E P 110 24 [l0, l1, l2, l3, l4, l5] (.int x0 :: s) h = if x0 = 0 then am_E P 110 27 [l0, l1, l2, l3, l4, l5] s h else am_E P 110 91 [l0, l1, l2, l3, l4, l5] s h) ∧
  (∀ (P : Nat × Nat) (l1 : Option Value) (l2 : Option Value) (l3 : Option Value) (l4 : Option Value) (l5 : Option Value) (a0 : Nat) (s : List Value) (h : am_H), am_E P 110 27 [some (.ref a0), l1, l2, l3, l4, l5] s h = am_E P 110 28 [some (.ref a0), l1, l2, l3, l4, l5] (.ref a0 :: s) h) ∧
  (∀ (P : Nat × Nat) (l1 : Option Value) (l2 : Option Value) (l3 : Option Value) (l4 : Option Value) (l5 : Option Value) (s : List Value) (h : am_H), am_E P 110 27 [some .null, l1, l2, l3, l4, l5] s h = am_E P 110 28 [some .null, l1, l2, l3, l4, l5] (.null :: s) h) ∧
  (∀ (P : Nat × Nat) (l0 : Option Value) (l1 : Option Value) (l2 : Option Value) (l3 : Option Value) (l4 : Option Value) (l5 : Option Value) (a0 : Nat) (s : List Value) (h : am_H), am_E P 110 28 [l0, l1, l2, l3, l4, l5] (.ref a0 :: s) h = (am_g1 h a0 9 10).bind (fun v => am_E P 110 31 [l0, l1, l2, l3, l4, l5] (v :: s) h)) ∧
  (∀ (P : Nat × Nat) (l0 : Option Value) (l1 : Option Value) (l2 : Option Value) (l3 : Option Value) (l4 : Option Value) (x0 : Int32) (s : List Value) (h : am_H), am_E P 110 31 [l0, l1, l2, l3, l4, some (.int x0)] s h = am_E P 110 33 [l0, l1, l2, l3, l4, some (.int x0)] (.int x0 :: s) h) ∧
  (∀ (P : Nat × Nat) (l0 : Option Value) (l1 : Option Value) (l2 : Option Value) (l3 : Option Value) (l4 : Option Value) (l5 : Option Value) (x0 : Int32) (a0 : Nat) (s : List Value) (h : am_H), am_E P 110 33 [l0, l1, l2, l3, l4, l5] (.int x0 :: .ref a0 :: s) h = (am_iald h a0 x0).bind (fun v => am_E P 110 34 [l0, l1, l2, l3, l4, l5] (.int v :: s) h)) ∧
  (∀ (P : Nat × Nat) (l0 : Option Value) (l2 : Option Value) (l3 : Option Value) (l4 : Option Value) (l5 : Option Value) (x0 : Int32) (s : List Value) (h : am_H), am_E P 110 34 [l0, some (.int x0), l2, l3, l4, l5] s h = am_E P 110 35 [l0, some (.int x0), l2, l3, l4, l5] (.int x0 :: s) h) ∧
  (∀ (P : Nat × Nat) (l0 : Option Value) (l1 : Option Value) (l2 : Option Value) (l3 : Option Value) (l4 : Option Value) (l5 : Option Value) (x0 : Int32) (x1 : Int32) (s : List Value) (h : am_H), am_E P 110 35 [l0, l1, l2, l3, l4, l5] (.int x1 :: .int x0 :: s) h = if x0 = x1 then am_E P 110 38 [l0, l1, l2, l3, l4, l5] s h else am_E P 110 91 [l0, l1, l2, l3, l4, l5] s h) ∧
  (∀ (P : Nat × Nat) (l1 : Option Value) (l2 : Option Value) (l3 : Option Value) (l4 : Option Value) (l5 : Option Value) (a0 : Nat) (s : List Value) (h : am_H), am_E P 110 38 [some (.ref a0), l1, l2, l3, l4, l5] s h = am_E P 110 39 [some (.ref a0), l1, l2, l3, l4, l5] (.ref a0 :: s) h) ∧
  (∀ (P : Nat × Nat) (l1 : Option Value) (l2 : Option Value) (l3 : Option Value) (l4 : Option Value) (l5 : Option Value) (s : List Value) (h : am_H), am_E P 110 38 [some .null, l1, l2, l3, l4, l5] s h = am_E P 110 39 [some .null, l1, l2, l3, l4, l5] (.null :: s) h) ∧
  (∀ (P : Nat × Nat) (l0 : Option Value) (l1 : Option Value) (l2 : Option Value) (l3 : Option Value) (l4 : Option Value) (l5 : Option Value) (a0 : Nat) (s : List Value) (h : am_H), am_E P 110 39 [l0, l1, l2, l3, l4, l5] (.ref a0 :: s) h = (am_g1 h a0 9 11).bind (fun v => am_E P 110 42 [l0, l1, l2, l3, l4, l5] (v :: s) h)) ∧
  (∀ (P : Nat × Nat) (l0 : Option Value) (l1 : Option Value) (l2 : Option Value) (l3 : Option Value) (l4 : Option Value) (x0 : Int32) (s : List Value) (h : am_H), am_E P 110 42 [l0, l1, l2, l3, l4, some (.int x0)] s h = am_E P 110 44 [l0, l1, l2, l3, l4, some (.int x0)] (.int x0 :: s) h) ∧
  (∀ (P : Nat × Nat) (l0 : Option Value) (l1 : Option Value) (l2 : Option Value) (l3 : Option Value) (l4 : Option Value) (l5 : Option Value) (x0 : Int32) (a0 : Nat) (s : List Value) (h : am_H), am_E P 110 44 [l0, l1, l2, l3, l4, l5] (.int x0 :: .ref a0 :: s) h = (am_iald h a0 x0).bind (fun v => am_E P 110 45 [l0, l1, l2, l3, l4, l5] (.int v :: s) h)) ∧
  (∀ (P : Nat × Nat) (l0 : Option Value) (l1 : Option Value) (l3 : Option Value) (l4 : Option Value) (l5 : Option Value) (x0 : Int32) (s : List Value) (h : am_H), am_E P 110 45 [l0, l1, some (.int x0), l3, l4, l5] s h = am_E P 110 46 [l0, l1, some (.int x0), l3, l4, l5] (.int x0 :: s) h) ∧
  (∀ (P : Nat × Nat) (l0 : Option Value) (l1 : Option Value) (l2 : Option Value) (l3 : Option Value) (l4 : Option Value) (l5 : Option Value) (x0 : Int32) (x1 : Int32) (s : List Value) (h : am_H), am_E P 110 46 [l0, l1, l2, l3, l4, l5] (.int x1 :: .int x0 :: s) h = if x0 = x1 then am_E P 110 49 [l0, l1, l2, l3, l4, l5] s h else am_E P 110 91 [l0, l1, l2, l3, l4, l5] s h) ∧
  (∀ (P : Nat × Nat) (l0 : Option Value) (l1 : Option Value) (l2 : Option Value) (l3 : Option Value) (l5 : Option Value) (x0 : Int32) (s : List Value) (h : am_H), am_E P 110 49 [l0, l1, l2, l3, some (.int x0), l5] s h = am_E P 110 52 [l0, l1, l2, l3, some (.int (x0 + 1)), l5] s h) ∧
  (∀ (P : Nat × Nat) (l1 : Option Value) (l2 : Option Value) (l3 : Option Value) (l4 : Option Value) (l5 : Option Value) (a0 : Nat) (s : List Value) (h : am_H), am_E P 110 52 [some (.ref a0), l1, l2, l3, l4, l5] s h = am_E P 110 53 [some (.ref a0), l1, l2, l3, l4, l5] (.ref a0 :: s) h) ∧
  (∀ (P : Nat × Nat) (l1 : Option Value) (l2 : Option Value) (l3 : Option Value) (l4 : Option Value) (l5 : Option Value) (s : List Value) (h : am_H), am_E P 110 52 [some .null, l1, l2, l3, l4, l5] s h = am_E P 110 53 [some .null, l1, l2, l3, l4, l5] (.null :: s) h) ∧
  (∀ (P : Nat × Nat) (l0 : Option Value) (l1 : Option Value) (l2 : Option Value) (l3 : Option Value) (l4 : Option Value) (l5 : Option Value) (a0 : Nat) (s : List Value) (h : am_H), am_E P 110 53 [l0, l1, l2, l3, l4, l5] (.ref a0 :: s) h = (am_g1 h a0 9 1).bind (fun v => am_E P 110 56 [l0, l1, l2, l3, l4, l5] (v :: s) h)) ∧
  (∀ (P : Nat × Nat) (l0 : Option Value) (l2 : Option Value) (l3 : Option Value) (l4 : Option Value) (l5 : Option Value) (x0 : Int32) (s : List Value) (h : am_H), am_E P 110 56 [l0, some (.int x0), l2, l3, l4, l5] s h = am_E P 110 57 [l0, some (.int x0), l2, l3, l4, l5] (.int x0 :: s) h) ∧
  (∀ (P : Nat × Nat) (l0 : Option Value) (l1 : Option Value) (l2 : Option Value) (l3 : Option Value) (l4 : Option Value) (l5 : Option Value) (x0 : Int32) (a0 : Nat) (s : List Value) (h : am_H), am_E P 110 57 [l0, l1, l2, l3, l4, l5] (.int x0 :: .ref a0 :: s) h = (am_iald h a0 x0).bind (fun v => am_E P 110 58 [l0, l1, l2, l3, l4, l5] (.int v :: s) h)) ∧
  (∀ (P : Nat × Nat) (l0 : Option Value) (l1 : Option Value) (l2 : Option Value) (l3 : Option Value) (l4 : Option Value) (l5 : Option Value) (s : List Value) (h : am_H), am_E P 110 58 [l0, l1, l2, l3, l4, l5] s h = am_E P 110 59 [l0, l1, l2, l3, l4, l5] (.int 1 :: s) h) ∧
  (∀ (P : Nat × Nat) (l0 : Option Value) (l1 : Option Value) (l2 : Option Value) (l3 : Option Value) (l4 : Option Value) (l5 : Option Value) (x0 : Int32) (x1 : Int32) (s : List Value) (h : am_H), am_E P 110 59 [l0, l1, l2, l3, l4, l5] (.int x1 :: .int x0 :: s) h = if x0 = x1 then am_E P 110 62 [l0, l1, l2, l3, l4, l5] s h else am_E P 110 91 [l0, l1, l2, l3, l4, l5] s h) ∧
  (∀ (P : Nat × Nat) (l0 : Option Value) (l1 : Option Value) (l2 : Option Value) (l4 : Option Value) (l5 : Option Value) (x0 : Int32) (s : List Value) (h : am_H), am_E P 110 62 [l0, l1, l2, some (.int x0), l4, l5] s h = am_E P 110 63 [l0, l1, l2, some (.int x0), l4, l5] (.int x0 :: s) h) ∧
  (∀ (P : Nat × Nat) (l1 : Option Value) (l2 : Option Value) (l3 : Option Value) (l4 : Option Value) (l5 : Option Value) (a0 : Nat) (s : List Value) (h : am_H), am_E P 110 63 [some (.ref a0), l1, l2, l3, l4, l5] s h = am_E P 110 64 [some (.ref a0), l1, l2, l3, l4, l5] (.ref a0 :: s) h) ∧
  (∀ (P : Nat × Nat) (l1 : Option Value) (l2 : Option Value) (l3 : Option Value) (l4 : Option Value) (l5 : Option Value) (s : List Value) (h : am_H), am_E P 110 63 [some .null, l1, l2, l3, l4, l5] s h = am_E P 110 64 [some .null, l1, l2, l3, l4, l5] (.null :: s) h) ∧
  (∀ (P : Nat × Nat) (l0 : Option Value) (l1 : Option Value) (l2 : Option Value) (l3 : Option Value) (l4 : Option Value) (l5 : Option Value) (a0 : Nat) (s : List Value) (h : am_H), am_E P 110 64 [l0, l1, l2, l3, l4, l5] (.ref a0 :: s) h = (am_g1 h a0 9 19).bind (fun v => am_E P 110 67 [l0, l1, l2, l3, l4, l5] (v :: s) h)) ∧
  (∀ (P : Nat × Nat) (l0 : Option Value) (l1 : Option Value) (l2 : Option Value) (l3 : Option Value) (l4 : Option Value) (l5 : Option Value) (s : List Value) (h : am_H), am_E P 110 67 [l0, l1, l2, l3, l4, l5] s h = am_E P 110 69 [l0, l1, l2, l3, l4, l5] (.int 10 :: s) h) ∧
  (∀ (P : Nat × Nat) (l0 : Option Value) (l2 : Option Value) (l3 : Option Value) (l4 : Option Value) (l5 : Option Value) (x0 : Int32) (s : List Value) (h : am_H), am_E P 110 69 [l0, some (.int x0), l2, l3, l4, l5] s h = am_E P 110 70 [l0, some (.int x0), l2, l3, l4, l5] (.int x0 :: s) h) ∧
  (∀ (P : Nat × Nat) (l0 : Option Value) (l1 : Option Value) (l2 : Option Value) (l3 : Option Value) (l4 : Option Value) (l5 : Option Value) (x0 : Int32) (x1 : Int32) (s : List Value) (h : am_H), am_E P 110 70 [l0, l1, l2, l3, l4, l5] (.int x1 :: .int x0 :: s) h = am_E P 110 71 [l0, l1, l2, l3, l4, l5] (.int (x0 * x1) :: s) h) ∧
  (∀ (P : Nat × Nat) (l1 : Option Value) (l2 : Option Value) (l3 : Option Value) (l4 : Option Value) (l5 : Option Value) (a0 : Nat) (s : List Value) (h : am_H), am_E P 110 71 [some (.ref a0), l1, l2, l3, l4, l5] s h = am_E P 110 72 [some (.ref a0), l1, l2, l3, l4, l5] (.ref a0 :: s) h) ∧
  (∀ (P : Nat × Nat) (l1 : Option Value) (l2 : Option Value) (l3 : Option Value) (l4 : Option Value) (l5 : Option Value) (s : List Value) (h : am_H), am_E P 110 71 [some .null, l1, l2, l3, l4, l5] s h = am_E P 110 72 [some .null, l1, l2, l3, l4, l5] (.null :: s) h) ∧
  (∀ (P : Nat × Nat) (l0 : Option Value) (l1 : Option Value) (l2 : Option Value) (l3 : Option Value) (l4 : Option Value) (l5 : Option Value) (a0 : Nat) (s : List Value) (h : am_H), am_E P 110 72 [l0, l1, l2, l3, l4, l5] (.ref a0 :: s) h = (am_g1 h a0 9 12).bind (fun v => am_E P 110 75 [l0, l1, l2, l3, l4, l5] (v :: s) h)) ∧
  (∀ (P : Nat × Nat) (l0 : Option Value) (l1 : Option Value) (l2 : Option Value) (l3 : Option Value) (l4 : Option Value) (x0 : Int32) (s : List Value) (h : am_H), am_E P 110 75 [l0, l1, l2, l3, l4, some (.int x0)] s h = am_E P 110 77 [l0, l1, l2, l3, l4, some (.int x0)] (.int x0 :: s) h) ∧
  (∀ (P : Nat × Nat) (l0 : Option Value) (l1 : Option Value) (l2 : Option Value) (l3 : Option Value) (l4 : Option Value) (l5 : Option Value) (x0 : Int32) (a0 : Nat) (s : List Value) (h : am_H), am_E P 110 77 [l0, l1, l2, l3, l4, l5] (.int x0 :: .ref a0 :: s) h = (am_iald h a0 x0).bind (fun v => am_E P 110 78 [l0, l1, l2, l3, l4, l5] (.int v :: s) h)) ∧
  (∀ (P : Nat × Nat) (l0 : Option Value) (l1 : Option Value) (l2 : Option Value) (l3 : Option Value) (l4 : Option Value) (l5 : Option Value) (x0 : Int32) (x1 : Int32) (s : List Value) (h : am_H), am_E P 110 78 [l0, l1, l2, l3, l4, l5] (.int x1 :: .int x0 :: s) h = am_E P 110 79 [l0, l1, l2, l3, l4, l5] (.int (x0 + x1) :: s) h) ∧
  (∀ (P : Nat × Nat) (l0 : Option Value) (l1 : Option Value) (l2 : Option Value) (l3 : Option Value) (l4 : Option Value) (l5 : Option Value) (x0 : Int32) (a0 : Nat) (s : List Value) (h : am_H), am_E P 110 79 [l0, l1, l2, l3, l4, l5] (.int x0 :: .ref a0 :: s) h = (am_iald h a0 x0).bind (fun v => am_E P 110 80 [l0, l1, l2, l3, l4, l5] (.int v :: s) h)) ∧
  (∀ (P : Nat × Nat) (l0 : Option Value) (l1 : Option Value) (l3 : Option Value) (l4 : Option Value) (l5 : Option Value) (x0 : Int32) (s : List Value) (h : am_H), am_E P 110 80 [l0, l1, some (.int x0), l3, l4, l5] s h = am_E P 110 81 [l0, l1, some (.int x0), l3, l4, l5] (.int x0 :: s) h) ∧
  (∀ (P : Nat × Nat) (l0 : Option Value) (l1 : Option Value) (l2 : Option Value) (l3 : Option Value) (l4 : Option Value) (l5 : Option Value) (x0 : Int32) (x1 : Int32) (s : List Value) (h : am_H), am_E P 110 81 [l0, l1, l2, l3, l4, l5] (.int x1 :: .int x0 :: s) h = if x0 < x1 then am_E P 110 88 [l0, l1, l2, l3, l4, l5] s h else am_E P 110 84 [l0, l1, l2, l3, l4, l5] s h) ∧
  (∀ (P : Nat × Nat) (l0 : Option Value) (l1 : Option Value) (l2 : Option Value) (l3 : Option Value) (l4 : Option Value) (l5 : Option Value) (s : List Value) (h : am_H), am_E P 110 84 [l0, l1, l2, l3, l4, l5] s h = am_E P 110 85 [l0, l1, l2, l3, l4, l5] (.int 1 :: s) h) ∧
  (∀ (P : Nat × Nat) (l0 : Option Value) (l1 : Option Value) (l2 : Option Value) (l3 : Option Value) (l4 : Option Value) (l5 : Option Value) (s : List Value) (h : am_H), am_E P 110 85 [l0, l1, l2, l3, l4, l5] s h = am_E P 110 89 [l0, l1, l2, l3, l4, l5] s h) ∧
  (∀ (P : Nat × Nat) (l0 : Option Value) (l1 : Option Value) (l2 : Option Value) (l3 : Option Value) (l4 : Option Value) (l5 : Option Value) (s : List Value) (h : am_H), am_E P 110 88 [l0, l1, l2, l3, l4, l5] s h = am_E P 110 89 [l0, l1, l2, l3, l4, l5] (.int 0 :: s) h) ∧
  (∀ (P : Nat × Nat) (l0 : Option Value) (l1 : Option Value) (l2 : Option Value) (l3 : Option Value) (l4 : Option Value) (l5 : Option Value) (x0 : Int32) (x1 : Int32) (s : List Value) (h : am_H), am_E P 110 89 [l0, l1, l2, l3, l4, l5] (.int x1 :: .int x0 :: s) h = am_E P 110 90 [l0, l1, l2, l3, l4, l5] (.int (x0 + x1) :: s) h) ∧
  (∀ (P : Nat × Nat) (l0 : Option Value) (l1 : Option Value) (l2 : Option Value) (l3 : Option Value) (l4 : Option Value) (l5 : Option Value) (x0 : Int32) (s : List Value) (h : am_H), am_E P 110 90 [l0, l1, l2, l3, l4, l5] (.int x0 :: s) h = am_E P 110 91 [l0, l1, l2, some (.int x0), l4, l5] s h) ∧
  (∀ (P : Nat × Nat) (l0 : Option Value) (l1 : Option Value) (l2 : Option Value) (l3 : Option Value) (l4 : Option Value) (x0 : Int32) (s : List Value) (h : am_H), am_E P 110 91 [l0, l1, l2, l3, l4, some (.int x0)] s h = am_E P 110 94 [l0, l1, l2, l3, l4, some (.int (x0 + 1))] s h) ∧
  (∀ (P : Nat × Nat) (l0 : Option Value) (l1 : Option Value) (l2 : Option Value) (l3 : Option Value) (l4 : Option Value) (l5 : Option Value) (s : List Value) (h : am_H), am_E P 110 94 [l0, l1, l2, l3, l4, l5] s h = am_E P 110 8 [l0, l1, l2, l3, l4, l5] s h) ∧
  (∀ (P : Nat × Nat) (l0 : Option Value) (l1 : Option Value) (l2 : Option Value) (l3 : Option Value) (l4 : Option Value) (l5 : Option Value) (s : List Value) (h : am_H), am_E P 110 97 [l0, l1, l2, l3, l4, l5] s h = am_E P 110 98 [l0, l1, l2, l3, l4, l5] (.int 0 :: s) h) ∧
  (∀ (P : Nat × Nat) (l0 : Option Value) (l1 : Option Value) (l2 : Option Value) (l3 : Option Value) (l4 : Option Value) (l5 : Option Value) (x0 : Int32) (s : List Value) (h : am_H), am_E P 110 98 [l0, l1, l2, l3, l4, l5] (.int x0 :: s) h = am_E P 110 100 [l0, l1, l2, l3, l4, some (.int x0)] s h) ∧
  (∀ (P : Nat × Nat) (l1 : Option Value) (l2 : Option Value) (l3 : Option Value) (l4 : Option Value) (l5 : Option Value) (a0 : Nat) (s : List Value) (h : am_H), am_E P 110 102 [some (.ref a0), l1, l2, l3, l4, l5] s h = am_E P 110 103 [some (.ref a0), l1, l2, l3, l4, l5] (.ref a0 :: s) h) ∧
  (∀ (P : Nat × Nat) (l1 : Option Value) (l2 : Option Value) (l3 : Option Value) (l4 : Option Value) (l5 : Option Value) (s : List Value) (h : am_H), am_E P 110 102 [some .null, l1, l2, l3, l4, l5] s h = am_E P 110 103 [some .null, l1, l2, l3, l4, l5] (.null :: s) h) ∧
  (∀ (P : Nat × Nat) (l0 : Option Value) (l1 : Option Value) (l2 : Option Value) (l3 : Option Value) (l4 : Option Value) (l5 : Option Value) (a0 : Nat) (s : List Value) (h : am_H), am_E P 110 103 [l0, l1, l2, l3, l4, l5] (.ref a0 :: s) h = (am_g1 h a0 9 14).bind (fun v => am_E P 110 106 [l0, l1, l2, l3, l4, l5] (v :: s) h)) ∧
  (∀ (P : Nat × Nat) (l0 : Option Value) (l2 : Option Value) (l3 : Option Value) (l4 : Option Value) (l5 : Option Value) (x0 : Int32) (s : List Value) (h : am_H), am_E P 110 106 [l0, some (.int x0), l2, l3, l4, l5] s h = am_E P 110 107 [l0, some (.int x0), l2, l3, l4, l5] (.int x0 :: s) h) ∧
  (∀ (P : Nat × Nat) (l0 : Option Value) (l1 : Option Value) (l2 : Option Value) (l3 : Option Value) (l4 : Option Value) (l5 : Option Value) (x0 : Int32) (a0 : Nat) (s : List Value) (h : am_H), am_E P 110 107 [l0, l1, l2, l3, l4, l5] (.int x0 :: .ref a0 :: s) h = (am_iald h a0 x0).bind (fun v => am_E P 110 108 [l0, l1, l2, l3, l4, l5] (.int v :: s) h)) ∧
  (∀ (P : Nat × Nat) (l0 : Option Value) (l1 : Option Value) (l2 : Option Value) (l3 : Option Value) (l4 : Option Value) (l5 : Option Value) (x0 : Int32) (x1 : Int32) (s : List Value) (h : am_H), am_E P 110 108 [l0, l1, l2, l3, l4, l5] (.int x1 :: .int x0 :: s) h = if x1 ≤ x0 then am_E P 110 144 [l0, l1, l2, l3, l4, l5] s h else am_E P 110 111 [l0, l1, l2, l3, l4, l5] s h) ∧
  (∀ (P : Nat × Nat) (l0 : Option Value) (l1 : Option Value) (l2 : Option Value) (l4 : Option Value) (l5 : Option Value) (x0 : Int32) (s : List Value) (h : am_H), am_E P 110 111 [l0, l1, l2, some (.int x0), l4, l5] s h = am_E P 110 112 [l0, l1, l2, some (.int x0), l4, l5] (.int x0 :: s) h) ∧
  (∀ (P : Nat × Nat) (l1 : Option Value) (l2 : Option Value) (l3 : Option Value) (l4 : Option Value) (l5 : Option Value) (a0 : Nat) (s : List Value) (h : am_H), am_E P 110 112 [some (.ref a0), l1, l2, l3, l4, l5] s h = am_E P 110 113 [some (.ref a0), l1, l2, l3, l4, l5] (.ref a0 :: s) h) ∧
  (∀ (P : Nat × Nat) (l1 : Option Value) (l2 : Option Value) (l3 : Option Value) (l4 : Option Value) (l5 : Option Value) (s : List Value) (h : am_H), am_E P 110 112 [some .null, l1, l2, l3, l4, l5] s h = am_E P 110 113 [some .null, l1, l2, l3, l4, l5] (.null :: s) h) ∧
  (∀ (P : Nat × Nat) (l0 : Option Value) (l1 : Option Value) (l2 : Option Value) (l3 : Option Value) (l4 : Option Value) (l5 : Option Value) (a0 : Nat) (s : List Value) (h : am_H), am_E P 110 113 [l0, l1, l2, l3, l4, l5] (.ref a0 :: s) h = (am_g1 h a0 9 17).bind (fun v => am_E P 110 116 [l0, l1, l2, l3, l4, l5] (v :: s) h)) ∧
  (∀ (P : Nat × Nat) (l0 : Option Value) (l2 : Option Value) (l3 : Option Value) (l4 : Option Value) (l5 : Option Value) (x0 : Int32) (s : List Value) (h : am_H), am_E P 110 116 [l0, some (.int x0), l2, l3, l4, l5] s h = am_E P 110 117 [l0, some (.int x0), l2, l3, l4, l5] (.int x0 :: s) h) ∧
  (∀ (P : Nat × Nat) (l0 : Option Value) (l1 : Option Value) (l2 : Option Value) (l3 : Option Value) (l4 : Option Value) (l5 : Option Value) (s : List Value) (h : am_H), am_E P 110 117 [l0, l1, l2, l3, l4, l5] s h = am_E P 110 119 [l0, l1, l2, l3, l4, l5] (.int 100 :: s) h) ∧
  (∀ (P : Nat × Nat) (l0 : Option Value) (l1 : Option Value) (l2 : Option Value) (l3 : Option Value) (l4 : Option Value) (l5 : Option Value) (x0 : Int32) (x1 : Int32) (s : List Value) (h : am_H), am_E P 110 119 [l0, l1, l2, l3, l4, l5] (.int x1 :: .int x0 :: s) h = am_E P 110 120 [l0, l1, l2, l3, l4, l5] (.int (x0 * x1) :: s) h) ∧
  (∀ (P : Nat × Nat) (l0 : Option Value) (l1 : Option Value) (l2 : Option Value) (l3 : Option Value) (l4 : Option Value) (l5 : Option Value) (s : List Value) (h : am_H), am_E P 110 120 [l0, l1, l2, l3, l4, l5] s h = am_E P 110 122 [l0, l1, l2, l3, l4, l5] (.int 20 :: s) h) ∧
  (∀ (P : Nat × Nat) (l0 : Option Value) (l1 : Option Value) (l2 : Option Value) (l3 : Option Value) (l4 : Option Value) (l5 : Option Value) (x0 : Int32) (x1 : Int32) (s : List Value) (h : am_H), am_E P 110 122 [l0, l1, l2, l3, l4, l5] (.int x1 :: .int x0 :: s) h = am_E P 110 123 [l0, l1, l2, l3, l4, l5] (.int (x0 * x1) :: s) h) ∧
  (∀ (P : Nat × Nat) (l0 : Option Value) (l1 : Option Value) (l2 : Option Value) (l3 : Option Value) (l4 : Option Value) (x0 : Int32) (s : List Value) (h : am_H), am_E P 110 123 [l0, l1, l2, l3, l4, some (.int x0)] s h = am_E P 110 125 [l0, l1, l2, l3, l4, some (.int x0)] (.int x0 :: s) h) ∧
  (∀ (P : Nat × Nat) (l0 : Option Value) (l1 : Option Value) (l2 : Option Value) (l3 : Option Value) (l4 : Option Value) (l5 : Option Value) (x0 : Int32) (x1 : Int32) (s : List Value) (h : am_H), am_E P 110 125 [l0, l1, l2, l3, l4, l5] (.int x1 :: .int x0 :: s) h = am_E P 110 126 [l0, l1, l2, l3, l4, l5] (.int (x0 + x1) :: s) h) ∧
  (∀ (P : Nat × Nat) (l0 : Option Value) (l1 : Option Value) (l2 : Option Value) (l3 : Option Value) (l4 : Option Value) (l5 : Option Value) (x0 : Int32) (a0 : Nat) (s : List Value) (h : am_H), am_E P 110 126 [l0, l1, l2, l3, l4, l5] (.int x0 :: .ref a0 :: s) h = (am_iald h a0 x0).bind (fun v => am_E P 110 127 [l0, l1, l2, l3, l4, l5] (.int v :: s) h)) ∧
  (∀ (P : Nat × Nat) (l0 : Option Value) (l1 : Option Value) (l3 : Option Value) (l4 : Option Value) (l5 : Option Value) (x0 : Int32) (s : List Value) (h : am_H), am_E P 110 127 [l0, l1, some (.int x0), l3, l4, l5] s h = am_E P 110 128 [l0, l1, some (.int x0), l3, l4, l5] (.int x0 :: s) h) ∧
  (∀ (P : Nat × Nat) (l0 : Option Value) (l1 : Option Value) (l2 : Option Value) (l3 : Option Value) (l4 : Option Value) (l5 : Option Value) (x0 : Int32) (x1 : Int32) (s : List Value) (h : am_H), am_E P 110 128 [l0, l1, l2, l3, l4, l5] (.int x1 :: .int x0 :: s) h = if x0 = x1 then am_E P 110 131 [l0, l1, l2, l3, l4, l5] s h else am_E P 110 135 [l0, l1, l2, l3, l4, l5] s h) ∧
  (∀ (P : Nat × Nat) (l0 : Option Value) (l1 : Option Value) (l2 : Option Value) (l3 : Option Value) (l4 : Option Value) (l5 : Option Value) (s : List Value) (h : am_H), am_E P 110 131 [l0, l1, l2, l3, l4, l5] s h = am_E P 110 132 [l0, l1, l2, l3, l4, l5] (.int 1 :: s) h) ∧
  (∀ (P : Nat × Nat) (l0 : Option Value) (l1 : Option Value) (l2 : Option Value) (l3 : Option Value) (l4 : Option Value) (l5 : Option Value) (s : List Value) (h : am_H), am_E P 110 132 [l0, l1, l2, l3, l4, l5] s h = am_E P 110 136 [l0, l1, l2, l3, l4, l5] s h) ∧
  (∀ (P : Nat × Nat) (l0 : Option Value) (l1 : Option Value) (l2 : Option Value) (l3 : Option Value) (l4 : Option Value) (l5 : Option Value) (s : List Value) (h : am_H), am_E P 110 135 [l0, l1, l2, l3, l4, l5] s h = am_E P 110 136 [l0, l1, l2, l3, l4, l5] (.int 0 :: s) h) ∧
  (∀ (P : Nat × Nat) (l0 : Option Value) (l1 : Option Value) (l2 : Option Value) (l3 : Option Value) (l4 : Option Value) (l5 : Option Value) (x0 : Int32) (x1 : Int32) (s : List Value) (h : am_H), am_E P 110 136 [l0, l1, l2, l3, l4, l5] (.int x1 :: .int x0 :: s) h = am_E P 110 137 [l0, l1, l2, l3, l4, l5] (.int (x0 + x1) :: s) h) ∧
  (∀ (P : Nat × Nat) (l0 : Option Value) (l1 : Option Value) (l2 : Option Value) (l3 : Option Value) (l4 : Option Value) (l5 : Option Value) (x0 : Int32) (s : List Value) (h : am_H), am_E P 110 137 [l0, l1, l2, l3, l4, l5] (.int x0 :: s) h = am_E P 110 138 [l0, l1, l2, some (.int x0), l4, l5] s h) ∧
  (∀ (P : Nat × Nat) (l0 : Option Value) (l1 : Option Value) (l2 : Option Value) (l3 : Option Value) (l4 : Option Value) (x0 : Int32) (s : List Value) (h : am_H), am_E P 110 138 [l0, l1, l2, l3, l4, some (.int x0)] s h = am_E P 110 141 [l0, l1, l2, l3, l4, some (.int (x0 + 1))] s h) ∧
  (∀ (P : Nat × Nat) (l0 : Option Value) (l1 : Option Value) (l2 : Option Value) (l3 : Option Value) (l4 : Option Value) (l5 : Option Value) (s : List Value) (h : am_H), am_E P 110 141 [l0, l1, l2, l3, l4, l5] s h = am_E P 110 100 [l0, l1, l2, l3, l4, l5] s h) ∧
  (∀ (P : Nat × Nat) (l0 : Option Value) (l1 : Option Value) (l2 : Option Value) (l3 : Option Value) (l5 : Option Value) (x0 : Int32) (s : List Value) (h : am_H), am_E P 110 144 [l0, l1, l2, l3, some (.int x0), l5] s h = am_E P 110 146 [l0, l1, l2, l3, some (.int x0), l5] (.int x0 :: s) h) ∧
  (∀ (P : Nat × Nat) (l0 : Option Value) (l1 : Option Value) (l2 : Option Value) (l4 : Option Value) (l5 : Option Value) (x0 : Int32) (s : List Value) (h : am_H), am_E P 110 146 [l0, l1, l2, some (.int x0), l4, l5] s h = am_E P 110 147 [l0, l1, l2, some (.int x0), l4, l5] (.int x0 :: s) h) ∧
  (∀ (P : Nat × Nat) (l0 : Option Value) (l1 : Option Value) (l2 : Option Value) (l3 : Option Value) (l4 : Option Value) (l5 : Option Value) (x0 : Int32) (x1 : Int32) (s : List Value) (h : am_H), am_E P 110 147 [l0, l1, l2, l3, l4, l5] (.int x1 :: .int x0 :: s) h = am_E P 110 148 [l0, l1, l2, l3, l4, l5] (.int (x0 - x1) :: s) h) ∧
  (∀ (P : Nat × Nat) (l0 : Option Value) (l1 : Option Value) (l2 : Option Value) (l3 : Option Value) (l4 : Option Value) (l5 : Option Value) (x0 : Int32) (h : am_H), am_E P 110 148 [l0, l1, l2, l3, l4, l5] [.int x0] h = some (some (.int x0), h)) :=
  ⟨fun _ _ _ _ _ _ _ _ _ => er_go rfl rfl,
  fun _ _ _ _ _ _ _ _ _ _ => er_go rfl rfl,
  fun _ _ _ _ _ _ _ _ _ => er_go rfl rfl,
  fun _ _ _ _ _ _ _ _ _ _ => er_go rfl rfl,
  fun _ _ _ _ _ _ _ _ _ => er_go rfl rfl,
  fun _ _ _ _ _ _ _ _ _ _ => er_go rfl rfl,
  fun _ _ _ _ _ _ _ _ _ => er_go rfl rfl,
  fun _ _ _ _ _ _ _ _ => er_go rfl rfl,
  fun _ _ _ _ _ _ _ _ _ _ => er_get1 rfl,
  fun _ _ _ _ _ _ _ _ _ _ _ => er_ic_ge rfl,
  fun _ _ _ _ _ _ _ _ _ => er_go rfl rfl,
  fun _ _ _ _ _ _ _ _ => er_go rfl rfl,
  fun _ _ _ _ _ _ _ _ _ _ => er_get1 rfl,
  fun _ _ _ _ _ _ _ _ _ => er_go rfl rfl,
  fun _ _ _ _ _ _ _ _ _ _ _ => er_iald rfl,
  fun _ _ _ _ _ _ _ _ _ _ => er_if_ne rfl,
  fun _ _ _ _ _ _ _ _ _ => er_go rfl rfl,
  fun _ _ _ _ _ _ _ _ => er_go rfl rfl,
  fun _ _ _ _ _ _ _ _ _ _ => er_get1 rfl,
  fun _ _ _ _ _ _ _ _ _ => er_go rfl rfl,
  fun _ _ _ _ _ _ _ _ _ _ _ => er_iald rfl,
  fun _ _ _ _ _ _ _ _ _ => er_go rfl rfl,
  fun _ _ _ _ _ _ _ _ _ _ _ => er_ic_ne rfl,
  fun _ _ _ _ _ _ _ _ _ => er_go rfl rfl,
  fun _ _ _ _ _ _ _ _ => er_go rfl rfl,
  fun _ _ _ _ _ _ _ _ _ _ => er_get1 rfl,
  fun _ _ _ _ _ _ _ _ _ => er_go rfl rfl,
  fun _ _ _ _ _ _ _ _ _ _ _ => er_iald rfl,
  fun _ _ _ _ _ _ _ _ _ => er_go rfl rfl,
  fun _ _ _ _ _ _ _ _ _ _ _ => er_ic_ne rfl,
  fun _ _ _ _ _ _ _ _ _ => er_go rfl rfl,
  fun _ _ _ _ _ _ _ _ _ => er_go rfl rfl,
  fun _ _ _ _ _ _ _ _ => er_go rfl rfl,
  fun _ _ _ _ _ _ _ _ _ _ => er_get1 rfl,
  fun _ _ _ _ _ _ _ _ _ => er_go rfl rfl,
  fun _ _ _ _ _ _ _ _ _ _ _ => er_iald rfl,
  fun _ _ _ _ _ _ _ _ _ => er_go rfl rfl,
  fun _ _ _ _ _ _ _ _ _ _ _ => er_ic_ne rfl,
  fun _ _ _ _ _ _ _ _ _ => er_go rfl rfl,
  fun _ _ _ _ _ _ _ _ _ => er_go rfl rfl,
  fun _ _ _ _ _ _ _ _ => er_go rfl rfl,
  fun _ _ _ _ _ _ _ _ _ _ => er_get1 rfl,
  fun _ _ _ _ _ _ _ _ _ => er_go rfl rfl,
  fun _ _ _ _ _ _ _ _ _ => er_go rfl rfl,
  fun _ _ _ _ _ _ _ _ _ _ _ => er_go rfl rfl,
  fun _ _ _ _ _ _ _ _ _ => er_go rfl rfl,
  fun _ _ _ _ _ _ _ _ => er_go rfl rfl,
  fun _ _ _ _ _ _ _ _ _ _ => er_get1 rfl,
  fun _ _ _ _ _ _ _ _ _ => er_go rfl rfl,
  fun _ _ _ _ _ _ _ _ _ _ _ => er_iald rfl,
  fun _ _ _ _ _ _ _ _ _ _ _ => er_go rfl rfl,
  fun _ _ _ _ _ _ _ _ _ _ _ => er_iald rfl,
  fun _ _ _ _ _ _ _ _ _ => er_go rfl rfl,
  fun _ _ _ _ _ _ _ _ _ _ _ => er_ic_lt rfl,
  fun _ _ _ _ _ _ _ _ _ => er_go rfl rfl,
  fun _ _ _ _ _ _ _ _ _ => er_go rfl rfl,
  fun _ _ _ _ _ _ _ _ _ => er_go rfl rfl,
  fun _ _ _ _ _ _ _ _ _ _ _ => er_go rfl rfl,
  fun _ _ _ _ _ _ _ _ _ _ => er_go rfl rfl,
  fun _ _ _ _ _ _ _ _ _ => er_go rfl rfl,
  fun _ _ _ _ _ _ _ _ _ => er_go rfl rfl,
  fun _ _ _ _ _ _ _ _ _ => er_go rfl rfl,
  fun _ _ _ _ _ _ _ _ _ _ => er_go rfl rfl,
  fun _ _ _ _ _ _ _ _ _ => er_go rfl rfl,
  fun _ _ _ _ _ _ _ _ => er_go rfl rfl,
  fun _ _ _ _ _ _ _ _ _ _ => er_get1 rfl,
  fun _ _ _ _ _ _ _ _ _ => er_go rfl rfl,
  fun _ _ _ _ _ _ _ _ _ _ _ => er_iald rfl,
  fun _ _ _ _ _ _ _ _ _ _ _ => er_ic_ge rfl,
  fun _ _ _ _ _ _ _ _ _ => er_go rfl rfl,
  fun _ _ _ _ _ _ _ _ _ => er_go rfl rfl,
  fun _ _ _ _ _ _ _ _ => er_go rfl rfl,
  fun _ _ _ _ _ _ _ _ _ _ => er_get1 rfl,
  fun _ _ _ _ _ _ _ _ _ => er_go rfl rfl,
  fun _ _ _ _ _ _ _ _ _ => er_go rfl rfl,
  fun _ _ _ _ _ _ _ _ _ _ _ => er_go rfl rfl,
  fun _ _ _ _ _ _ _ _ _ => er_go rfl rfl,
  fun _ _ _ _ _ _ _ _ _ _ _ => er_go rfl rfl,
  fun _ _ _ _ _ _ _ _ _ => er_go rfl rfl,
  fun _ _ _ _ _ _ _ _ _ _ _ => er_go rfl rfl,
  fun _ _ _ _ _ _ _ _ _ _ _ => er_iald rfl,
  fun _ _ _ _ _ _ _ _ _ => er_go rfl rfl,
  fun _ _ _ _ _ _ _ _ _ _ _ => er_ic_ne rfl,
  fun _ _ _ _ _ _ _ _ _ => er_go rfl rfl,
  fun _ _ _ _ _ _ _ _ _ => er_go rfl rfl,
  fun _ _ _ _ _ _ _ _ _ => er_go rfl rfl,
  fun _ _ _ _ _ _ _ _ _ _ _ => er_go rfl rfl,
  fun _ _ _ _ _ _ _ _ _ _ => er_go rfl rfl,
  fun _ _ _ _ _ _ _ _ _ => er_go rfl rfl,
  fun _ _ _ _ _ _ _ _ _ => er_go rfl rfl,
  fun _ _ _ _ _ _ _ _ _ => er_go rfl rfl,
  fun _ _ _ _ _ _ _ _ _ => er_go rfl rfl,
  fun _ _ _ _ _ _ _ _ _ _ _ => er_go rfl rfl,
  fun _ _ _ _ _ _ _ _ _ => er_ret rfl rfl⟩
set_option maxRecDepth 100000 in
theorem hd110_8 : ∀ (P : Nat × Nat) (l0 : Option Value) (l1 : Option Value) (l2 : Option Value) (l3 : Option Value) (l4 : Option Value) (x0 : Int32) (s : List Value) (h : am_H), am_E P 110 8 [l0, l1, l2, l3, l4, some (.int x0)] s h = am_E P 110 10 [l0, l1, l2, l3, l4, some (.int x0)] (.int x0 :: s) h := fun _ _ _ _ _ _ _ _ _ => er_go rfl rfl
set_option maxRecDepth 100000 in
theorem hd110_100 : ∀ (P : Nat × Nat) (l0 : Option Value) (l1 : Option Value) (l2 : Option Value) (l3 : Option Value) (l4 : Option Value) (x0 : Int32) (s : List Value) (h : am_H), am_E P 110 100 [l0, l1, l2, l3, l4, some (.int x0)] s h = am_E P 110 102 [l0, l1, l2, l3, l4, some (.int x0)] (.int x0 :: s) h := fun _ _ _ _ _ _ _ _ _ => er_go rfl rfl
set_option maxRecDepth 100000 in
/-- java/lang/Math.max(II)I -/
theorem r111 : (∀ (P : Nat × Nat) (l1 : Option Value) (x0 : Int32) (s : List Value) (h : am_H), am_E P 111 0 [some (.int x0), l1] s h = am_E P 111 1 [some (.int x0), l1] (.int x0 :: s) h) ∧
  (∀ (P : Nat × Nat) (l0 : Option Value) (x0 : Int32) (s : List Value) (h : am_H), am_E P 111 1 [l0, some (.int x0)] s h = am_E P 111 2 [l0, some (.int x0)] (.int x0 :: s) h) ∧
  (∀ (P : Nat × Nat) (l0 : Option Value) (l1 : Option Value) (x0 : Int32) (x1 : Int32) (s : List Value) (h : am_H), am_E P 111 2 [l0, l1] (.int x1 :: .int x0 :: s) h = if x0 < x1 then am_E P 111 9 [l0, l1] s h else am_E P 111 5 [l0, l1] s h) ∧
  (∀ (P : Nat × Nat) (l1 : Option Value) (x0 : Int32) (s : List Value) (h : am_H), am_E P 111 5 [some (.int x0), l1] s h = am_E P 111 6 [some (.int x0), l1] (.int x0 :: s) h) ∧
  (∀ (P : Nat × Nat) (l0 : Option Value) (l1 : Option Value) (s : List Value) (h : am_H), am_E P 111 6 [l0, l1] s h = am_E P 111 10 [l0, l1] s h) ∧
  (∀ (P : Nat × Nat) (l0 : Option Value) (x0 : Int32) (s : List Value) (h : am_H), am_E P 111 9 [l0, some (.int x0)] s h = am_E P 111 10 [l0, some (.int x0)] (.int x0 :: s) h) ∧
  (∀ (P : Nat × Nat) (l0 : Option Value) (l1 : Option Value) (x0 : Int32) (h : am_H), am_E P 111 10 [l0, l1] [.int x0] h = some (some (.int x0), h)) :=
  ⟨fun _ _ _ _ _ => er_go rfl rfl,
  fun _ _ _ _ _ => er_go rfl rfl,
  fun _ _ _ _ _ _ _ => er_ic_lt rfl,
  fun _ _ _ _ _ => er_go rfl rfl,
  fun _ _ _ _ _ => er_go rfl rfl,
  fun _ _ _ _ _ => er_go rfl rfl,
  fun _ _ _ _ _ => er_ret rfl rfl⟩
set_option maxRecDepth 100000 in
/-- java/lang/Math.min(II)I -/
theorem r112 : (∀ (P : Nat × Nat) (l1 : Option Value) (x0 : Int32) (s : List Value) (h : am_H), am_E P 112 0 [some (.int x0), l1] s h = am_E P 112 1 [some (.int x0), l1] (.int x0 :: s) h) ∧
  (∀ (P : Nat × Nat) (l0 : Option Value) (x0 : Int32) (s : List Value) (h : am_H), am_E P 112 1 [l0, some (.int x0)] s h = am_E P 112 2 [l0, some (.int x0)] (.int x0 :: s) h) ∧
  (∀ (P : Nat × Nat) (l0 : Option Value) (l1 : Option Value) (x0 : Int32) (x1 : Int32) (s : List Value) (h : am_H), am_E P 112 2 [l0, l1] (.int x1 :: .int x0 :: s) h = if x1 < x0 then am_E P 112 9 [l0, l1] s h else am_E P 112 5 [l0, l1] s h) ∧
  (∀ (P : Nat × Nat) (l1 : Option Value) (x0 : Int32) (s : List Value) (h : am_H), am_E P 112 5 [some (.int x0), l1] s h = am_E P 112 6 [some (.int x0), l1] (.int x0 :: s) h) ∧
  (∀ (P : Nat × Nat) (l0 : Option Value) (l1 : Option Value) (s : List Value) (h : am_H), am_E P 112 6 [l0, l1] s h = am_E P 112 10 [l0, l1] s h) ∧
  (∀ (P : Nat × Nat) (l0 : Option Value) (x0 : Int32) (s : List Value) (h : am_H), am_E P 112 9 [l0, some (.int x0)] s h = am_E P 112 10 [l0, some (.int x0)] (.int x0 :: s) h) ∧
  (∀ (P : Nat × Nat) (l0 : Option Value) (l1 : Option Value) (x0 : Int32) (h : am_H), am_E P 112 10 [l0, l1] [.int x0] h = some (some (.int x0), h)) :=
  ⟨fun _ _ _ _ _ => er_go rfl rfl,
  fun _ _ _ _ _ => er_go rfl rfl,
  fun _ _ _ _ _ _ _ => er_ic_gt rfl,
  fun _ _ _ _ _ => er_go rfl rfl,
  fun _ _ _ _ _ => er_go rfl rfl,
  fun _ _ _ _ _ => er_go rfl rfl,
  fun _ _ _ _ _ => er_ret rfl rfl⟩
set_option maxRecDepth 100000 in
/-- java/util/AbstractCollection.<init>()V -/
theorem r113 : (∀ (P : Nat × Nat) (a0 : Nat) (s : List Value) (h : am_H), am_E P 113 0 [some (.ref a0)] s h = am_E P 113 1 [some (.ref a0)] (.ref a0 :: s) h) ∧
  (∀ (P : Nat × Nat) (s : List Value) (h : am_H), am_E P 113 0 [some .null] s h = am_E P 113 1 [some .null] (.null :: s) h) ∧
  (∀ (P : Nat × Nat) (l0 : Option Value) (a0 : Nat) (h : am_H), am_E P 113 1 [l0] [.ref a0] h = am_E P 113 4 [l0] [] h) ∧
  (∀ (P : Nat × Nat) (l0 : Option Value) (h : am_H), am_E P 113 4 [l0] [] h = some (none, h)) :=
  ⟨fun _ _ _ _ => er_go rfl rfl,
  fun _ _ _ => er_go rfl rfl,
  fun _ _ _ _ => er_go rfl rfl,
  fun _ _ _ => er_ret rfl rfl⟩
set_option maxRecDepth 100000 in
/-- java/util/AbstractList.<init>()V -/
theorem r114 : (∀ (P : Nat × Nat) (a0 : Nat) (s : List Value) (h : am_H), am_E P 114 0 [some (.ref a0)] s h = am_E P 114 1 [some (.ref a0)] (.ref a0 :: s) h) ∧
  (∀ (P : Nat × Nat) (s : List Value) (h : am_H), am_E P 114 0 [some .null] s h = am_E P 114 1 [some .null] (.null :: s) h) ∧
  (∀ (P : Nat × Nat) (l0 : Option Value) (a0 : Nat) (h : am_H), am_E P 114 1 [l0] [.ref a0] h = (am_E P 113 0 [some (.ref a0)] [] h).bind (fun q => am_E P 114 4 [l0] (q.1.toList ++ []) q.2)) ∧
  (∀ (P : Nat × Nat) (a0 : Nat) (s : List Value) (h : am_H), am_E P 114 4 [some (.ref a0)] s h = am_E P 114 5 [some (.ref a0)] (.ref a0 :: s) h) ∧
  (∀ (P : Nat × Nat) (s : List Value) (h : am_H), am_E P 114 4 [some .null] s h = am_E P 114 5 [some .null] (.null :: s) h) ∧
  (∀ (P : Nat × Nat) (l0 : Option Value) (s : List Value) (h : am_H), am_E P 114 5 [l0] s h = am_E P 114 6 [l0] (.int 0 :: s) h) ∧
  (∀ (P : Nat × Nat) (l0 : Option Value) (a0 : Nat) (x0 : Int32) (s : List Value) (h : am_H), am_E P 114 6 [l0] (.int x0 :: .ref a0 :: s) h = (am_p1 h a0 0 0 (.int x0)).bind (fun h => am_E P 114 9 [l0] s h)) ∧
  (∀ (P : Nat × Nat) (l0 : Option Value) (h : am_H), am_E P 114 9 [l0] [] h = some (none, h)) :=
  ⟨fun _ _ _ _ => er_go rfl rfl,
  fun _ _ _ => er_go rfl rfl,
  fun _ _ _ _ => er_callS rfl rfl rfl,
  fun _ _ _ _ => er_go rfl rfl,
  fun _ _ _ => er_go rfl rfl,
  fun _ _ _ _ => er_go rfl rfl,
  fun _ _ _ _ _ _ => er_put1 rfl rfl,
  fun _ _ _ => er_ret rfl rfl⟩
set_option maxRecDepth 100000 in
/-- java/util/ArrayList.<init>()V -/
theorem r115 : (∀ (P : Nat × Nat) (a0 : Nat) (s : List Value) (h : am_H), am_E P 115 0 [some (.ref a0)] s h = am_E P 115 1 [some (.ref a0)] (.ref a0 :: s) h) ∧
  (∀ (P : Nat × Nat) (s : List Value) (h : am_H), am_E P 115 0 [some .null] s h = am_E P 115 1 [some .null] (.null :: s) h) ∧
  (∀ (P : Nat × Nat) (l0 : Option Value) (a0 : Nat) (h : am_H), am_E P 115 1 [l0] [.ref a0] h = (am_E P 114 0 [some (.ref a0)] [] h).bind (fun q => am_E P 115 4 [l0] (q.1.toList ++ []) q.2)) ∧
  (∀ (P : Nat × Nat) (a0 : Nat) (s : List Value) (h : am_H), am_E P 115 4 [some (.ref a0)] s h = am_E P 115 5 [some (.ref a0)] (.ref a0 :: s) h) ∧
  (∀ (P : Nat × Nat) (s : List Value) (h : am_H), am_E P 115 4 [some .null] s h = am_E P 115 5 [some .null] (.null :: s) h) ∧
  (∀ (P : Nat × Nat) (l0 : Option Value) (s : List Value) (h : am_H), am_E P 115 5 [l0] s h = am_E P 115 8 [l0] (.ref P.1 :: s) h) ∧
  (∀ (P : Nat × Nat) (l0 : Option Value) (a0 : Nat) (a1 : Nat) (s : List Value) (h : am_H), am_E P 115 8 [l0] (.ref a1 :: .ref a0 :: s) h = (am_p1 h a0 0 1 (.ref a1)).bind (fun h => am_E P 115 11 [l0] s h)) ∧
  (∀ (P : Nat × Nat) (l0 : Option Value) (h : am_H), am_E P 115 11 [l0] [] h = some (none, h)) :=
  ⟨fun _ _ _ _ => er_go rfl rfl,
  fun _ _ _ => er_go rfl rfl,
  fun _ _ _ _ => er_callS rfl rfl rfl,
  fun _ _ _ _ => er_go rfl rfl,
  fun _ _ _ => er_go rfl rfl,
  fun _ _ _ _ => er_go rfl rfl,
  fun _ _ _ _ _ _ => er_put1 rfl rfl,
  fun _ _ _ => er_ret rfl rfl⟩
set_option maxRecDepth 100000 in
/-- java/util/ArrayList.grow(I)[Ljava/lang/Object; -/
theorem r116 : (∀ (P : Nat × Nat) (l1 : Option Value) (l2 : Option Value) (l3 : Option Value) (a0 : Nat) (s : List Value) (h : am_H), am_E P 116 0 [some (.ref a0), l1, l2, l3] s h = am_E P 116 1 [some (.ref a0), l1, l2, l3] (.ref a0 :: s) h) ∧
  (∀ (P : Nat × Nat) (l1 : Option Value) (l2 : Option Value) (l3 : Option Value) (s : List Value) (h : am_H), am_E P 116 0 [some .null, l1, l2, l3] s h = am_E P 116 1 [some .null, l1, l2, l3] (.null :: s) h) ∧
  (∀ (P : Nat × Nat) (l0 : Option Value) (l1 : Option Value) (l2 : Option Value) (l3 : Option Value) (a0 : Nat) (s : List Value) (h : am_H), am_E P 116 1 [l0, l1, l2, l3] (.ref a0 :: s) h = (am_g1 h a0 0 1).bind (fun v => am_E P 116 4 [l0, l1, l2, l3] (v :: s) h)) ∧
  (∀ (P : Nat × Nat) (l0 : Option Value) (l1 : Option Value) (l2 : Option Value) (l3 : Option Value) (a0 : Nat) (s : List Value) (h : am_H), am_E P 116 4 [l0, l1, l2, l3] (.ref a0 :: s) h = (am_alen h a0).bind (fun v => am_E P 116 5 [l0, l1, l2, l3] (.int v :: s) h)) ∧
  (∀ (P : Nat × Nat) (l0 : Option Value) (l1 : Option Value) (l2 : Option Value) (l3 : Option Value) (x0 : Int32) (s : List Value) (h : am_H), am_E P 116 5 [l0, l1, l2, l3] (.int x0 :: s) h = am_E P 116 6 [l0, l1, some (.int x0), l3] s h) ∧
  (∀ (P : Nat × Nat) (l0 : Option Value) (l1 : Option Value) (l3 : Option Value) (x0 : Int32) (s : List Value) (h : am_H), am_E P 116 6 [l0, l1, some (.int x0), l3] s h = am_E P 116 7 [l0, l1, some (.int x0), l3] (.int x0 :: s) h) ∧
  (∀ (P : Nat × Nat) (l0 : Option Value) (l1 : Option Value) (l2 : Option Value) (l3 : Option Value) (x0 : Int32) (s : List Value) (h : am_H), am_E P 116 7 [l0, l1, l2, l3] (.int x0 :: s) h = if 0 < x0 then am_E P 116 20 [l0, l1, l2, l3] s h else am_E P 116 10 [l0, l1, l2, l3] s h) ∧
  (∀ (P : Nat × Nat) (l1 : Option Value) (l2 : Option Value) (l3 : Option Value) (a0 : Nat) (s : List Value) (h : am_H), am_E P 116 10 [some (.ref a0), l1, l2, l3] s h = am_E P 116 11 [some (.ref a0), l1, l2, l3] (.ref a0 :: s) h) ∧
  (∀ (P : Nat × Nat) (l1 : Option Value) (l2 : Option Value) (l3 : Option Value) (s : List Value) (h : am_H), am_E P 116 10 [some .null, l1, l2, l3] s h = am_E P 116 11 [some .null, l1, l2, l3] (.null :: s) h) ∧
  (∀ (P : Nat × Nat) (l0 : Option Value) (l1 : Option Value) (l2 : Option Value) (l3 : Option Value) (a0 : Nat) (s : List Value) (h : am_H), am_E P 116 11 [l0, l1, l2, l3] (.ref a0 :: s) h = (am_g1 h a0 0 1).bind (fun v => am_E P 116 14 [l0, l1, l2, l3] (v :: s) h)) ∧
  (∀ (P : Nat × Nat) (l0 : Option Value) (l1 : Option Value) (l2 : Option Value) (l3 : Option Value) (s : List Value) (h : am_H), am_E P 116 14 [l0, l1, l2, l3] s h = am_E P 116 17 [l0, l1, l2, l3] (.ref P.1 :: s) h) ∧
  (∀ (P : Nat × Nat) (l0 : Option Value) (l1 : Option Value) (l2 : Option Value) (l3 : Option Value) (a0 : Nat) (a1 : Nat) (s : List Value) (h : am_H), am_E P 116 17 [l0, l1, l2, l3] (.ref a1 :: .ref a0 :: s) h = if a0 = a1 then am_E P 116 45 [l0, l1, l2, l3] s h else am_E P 116 20 [l0, l1, l2, l3] s h) ∧
  (∀ (P : Nat × Nat) (l0 : Option Value) (l1 : Option Value) (l3 : Option Value) (x0 : Int32) (s : List Value) (h : am_H), am_E P 116 20 [l0, l1, some (.int x0), l3] s h = am_E P 116 21 [l0, l1, some (.int x0), l3] (.int x0 :: s) h) ∧
  (∀ (P : Nat × Nat) (l0 : Option Value) (l2 : Option Value) (l3 : Option Value) (x0 : Int32) (s : List Value) (h : am_H), am_E P 116 21 [l0, some (.int x0), l2, l3] s h = am_E P 116 22 [l0, some (.int x0), l2, l3] (.int x0 :: s) h) ∧
  (∀ (P : Nat × Nat) (l0 : Option Value) (l1 : Option Value) (l3 : Option Value) (x0 : Int32) (s : List Value) (h : am_H), am_E P 116 22 [l0, l1, some (.int x0), l3] s h = am_E P 116 23 [l0, l1, some (.int x0), l3] (.int x0 :: s) h) ∧
  (∀ (P : Nat × Nat) (l0 : Option Value) (l1 : Option Value) (l2 : Option Value) (l3 : Option Value) (x0 : Int32) (x1 : Int32) (s : List Value) (h : am_H), am_E P 116 23 [l0, l1, l2, l3] (.int x1 :: .int x0 :: s) h = am_E P 116 24 [l0, l1, l2, l3] (.int (x0 - x1) :: s) h) ∧
  (∀ (P : Nat × Nat) (l0 : Option Value) (l1 : Option Value) (l3 : Option Value) (x0 : Int32) (s : List Value) (h : am_H), am_E P 116 24 [l0, l1, some (.int x0), l3] s h = am_E P 116 25 [l0, l1, some (.int x0), l3] (.int x0 :: s) h) ∧
  (∀ (P : Nat × Nat) (l0 : Option Value) (l1 : Option Value) (l2 : Option Value) (l3 : Option Value) (s : List Value) (h : am_H), am_E P 116 25 [l0, l1, l2, l3] s h = am_E P 116 26 [l0, l1, l2, l3] (.int 1 :: s) h) ∧
  (∀ (P : Nat × Nat) (l0 : Option Value) (l1 : Option Value) (l2 : Option Value) (l3 : Option Value) (x0 : Int32) (x1 : Int32) (s : List Value) (h : am_H), am_E P 116 26 [l0, l1, l2, l3] (.int x1 :: .int x0 :: s) h = am_E P 116 27 [l0, l1, l2, l3] (.int (x0 >>> (x1 &&& 31)) :: s) h) ∧
  (∀ (P : Nat × Nat) (l0 : Option Value) (l1 : Option Value) (l2 : Option Value) (l3 : Option Value) (x0 : Int32) (x1 : Int32) (x2 : Int32) (h : am_H), am_E P 116 27 [l0, l1, l2, l3] [.int x2, .int x1, .int x0] h = (am_E P 128 0 [some (.int x0), some (.int x1), some (.int x2), none] [] h).bind (fun q => am_E P 116 30 [l0, l1, l2, l3] (q.1.toList ++ []) q.2)) ∧
  (∀ (P : Nat × Nat) (l0 : Option Value) (l1 : Option Value) (l2 : Option Value) (l3 : Option Value) (x0 : Int32) (s : List Value) (h : am_H), am_E P 116 30 [l0, l1, l2, l3] (.int x0 :: s) h = am_E P 116 31 [l0, l1, l2, some (.int x0)] s h) ∧
  (∀ (P : Nat × Nat) (l1 : Option Value) (l2 : Option Value) (l3 : Option Value) (a0 : Nat) (s : List Value) (h : am_H), am_E P 116 31 [some (.ref a0), l1, l2, l3] s h = am_E P 116 32 [some (.ref a0), l1, l2, l3] (.ref a0 :: s) h) ∧
  (∀ (P : Nat × Nat) (l1 : Option Value) (l2 : Option Value) (l3 : Option Value) (s : List Value) (h : am_H), am_E P 116 31 [some .null, l1, l2, l3] s h = am_E P 116 32 [some .null, l1, l2, l3] (.null :: s) h) ∧
  (∀ (P : Nat × Nat) (l1 : Option Value) (l2 : Option Value) (l3 : Option Value) (a0 : Nat) (s : List Value) (h : am_H), am_E P 116 32 [some (.ref a0), l1, l2, l3] s h = am_E P 116 33 [some (.ref a0), l1, l2, l3] (.ref a0 :: s) h) ∧
  (∀ (P : Nat × Nat) (l1 : Option Value) (l2 : Option Value) (l3 : Option Value) (s : List Value) (h : am_H), am_E P 116 32 [some .null, l1, l2, l3] s h = am_E P 116 33 [some .null, l1, l2, l3] (.null :: s) h) ∧
  (∀ (P : Nat × Nat) (l0 : Option Value) (l1 : Option Value) (l2 : Option Value) (l3 : Option Value) (a0 : Nat) (s : List Value) (h : am_H), am_E P 116 33 [l0, l1, l2, l3] (.ref a0 :: s) h = (am_g1 h a0 0 1).bind (fun v => am_E P 116 36 [l0, l1, l2, l3] (v :: s) h)) ∧
  (∀ (P : Nat × Nat) (l0 : Option Value) (l1 : Option Value) (l2 : Option Value) (x0 : Int32) (s : List Value) (h : am_H), am_E P 116 36 [l0, l1, l2, some (.int x0)] s h = am_E P 116 37 [l0, l1, l2, some (.int x0)] (.int x0 :: s) h) ∧
  (∀ (P : Nat × Nat) (l0 : Option Value) (l1 : Option Value) (l2 : Option Value) (l3 : Option Value) (a1 : Nat) (x1 : Int32) (v0 : Value) (h : am_H), am_E P 116 37 [l0, l1, l2, l3] [.int x1, .ref a1, v0] h = (am_E P 124 0 [some (.ref a1), some (.int x1)] [] h).bind (fun q => am_E P 116 40 [l0, l1, l2, l3] (q.1.toList ++ [v0]) q.2)) ∧
  (∀ (P : Nat × Nat) (l0 : Option Value) (l1 : Option Value) (l2 : Option Value) (l3 : Option Value) (a0 : Nat) (a1 : Nat) (s : List Value) (h : am_H), am_E P 116 40 [l0, l1, l2, l3] (.ref a1 :: .ref a0 :: s) h = am_E P 116 41 [l0, l1, l2, l3] (.ref a1 :: .ref a0 :: .ref a1 :: s) h) ∧
  (∀ (P : Nat × Nat) (l0 : Option Value) (l1 : Option Value) (l2 : Option Value) (l3 : Option Value) (a0 : Nat) (a1 : Nat) (s : List Value) (h : am_H), am_E P 116 41 [l0, l1, l2, l3] (.ref a1 :: .ref a0 :: s) h = (am_p1 h a0 0 1 (.ref a1)).bind (fun h => am_E P 116 44 [l0, l1, l2, l3] s h)) ∧
  (∀ (P : Nat × Nat) (l0 : Option Value) (l1 : Option Value) (l2 : Option Value) (l3 : Option Value) (a0 : Nat) (h : am_H), am_E P 116 44 [l0, l1, l2, l3] [.ref a0] h = some (some (.ref a0), h)) ∧
  (∀ (P : Nat × Nat) (l0 : Option Value) (l1 : Option Value) (l2 : Option Value) (l3 : Option Value) (h : am_H), am_E P 116 44 [l0, l1, l2, l3] [.null] h = some (some .null, h)) ∧
  (∀ (P : Nat × Nat) (l1 : Option Value) (l2 : Option Value) (l3 : Option Value) (a0 : Nat) (s : List Value) (h : am_H), am_E P 116 45 [some (.ref a0), l1, l2, l3] s h = am_E P 116 46 [some (.ref a0), l1, l2, l3] (.ref a0 :: s) h) ∧
  (∀ (P : Nat × Nat) (l1 : Option Value) (l2 : Option Value) (l3 : Option Value) (s : List Value) (h : am_H), am_E P 116 45 [some .null, l1, l2, l3] s h = am_E P 116 46 [some .null, l1, l2, l3] (.null :: s) h) ∧
  (∀ (P : Nat × Nat) (l0 : Option Value) (l1 : Option Value) (l2 : Option Value) (l3 : Option Value) (s : List Value) (h : am_H), am_E P 116 46 [l0, l1, l2, l3] s h = am_E P 116 48 [l0, l1, l2, l3] (.int 10 :: s) h) ∧
  (∀ (P : Nat × Nat) (l0 : Option Value) (l2 : Option Value) (l3 : Option Value) (x0 : Int32) (s : List Value) (h : am_H), am_E P 116 48 [l0, some (.int x0), l2, l3] s h = am_E P 116 49 [l0, some (.int x0), l2, l3] (.int x0 :: s) h) ∧
  (∀ (P : Nat × Nat) (l0 : Option Value) (l1 : Option Value) (l2 : Option Value) (l3 : Option Value) (x0 : Int32) (x1 : Int32) (v0 : Value) (h : am_H), am_E P 116 49 [l0, l1, l2, l3] [.int x1, .int x0, v0] h = (am_E P 111 0 [some (.int x0), some (.int x1)] [] h).bind (fun q => am_E P 116 52 [l0, l1, l2, l3] (q.1.toList ++ [v0]) q.2)) ∧
  (∀ (P : Nat × Nat) (l0 : Option Value) (l1 : Option Value) (l2 : Option Value) (l3 : Option Value) (x0 : Int32) (s : List Value) (h : am_H), am_E P 116 52 [l0, l1, l2, l3] (.int x0 :: s) h = if x0.toInt < 0 ∨ 1000000 < x0.toInt then none else am_E P 116 55 [l0, l1, l2, l3] (.ref h.1 :: s) (ah_new h x0.toNatClampNeg (ac_R x0.toNatClampNeg (fun _ => none)))) ∧
  (∀ (P : Nat × Nat) (l0 : Option Value) (l1 : Option Value) (l2 : Option Value) (l3 : Option Value) (a0 : Nat) (a1 : Nat) (s : List Value) (h : am_H), am_E P 116 55 [l0, l1, l2, l3] (.ref a1 :: .ref a0 :: s) h = am_E P 116 56 [l0, l1, l2, l3] (.ref a1 :: .ref a0 :: .ref a1 :: s) h) ∧
  (∀ (P : Nat × Nat) (l0 : Option Value) (l1 : Option Value) (l2 : Option Value) (l3 : Option Value) (a0 : Nat) (a1 : Nat) (s : List Value) (h : am_H), am_E P 116 56 [l0, l1, l2, l3] (.ref a1 :: .ref a0 :: s) h = (am_p1 h a0 0 1 (.ref a1)).bind (fun h => am_E P 116 59 [l0, l1, l2, l3] s h)) ∧
  (∀ (P : Nat × Nat) (l0 : Option Value) (l1 : Option Value) (l2 : Option Value) (l3 : Option Value) (a0 : Nat) (h : am_H), am_E P 116 59 [l0, l1, l2, l3] [.ref a0] h = some (some (.ref a0), h)) ∧
  (∀ (P : Nat × Nat) (l0 : Option Value) (l1 : Option Value) (l2 : Option Value) (l3 : Option Value) (h : am_H), am_E P 116 59 [l0, l1, l2, l3] [.null] h = some (some .null, h)) :=
  ⟨fun _ _ _ _ _ _ _ => er_go rfl rfl,
  fun _ _ _ _ _ _ => er_go rfl rfl,
  fun _ _ _ _ _ _ _ _ => er_get1 rfl,
  fun _ _ _ _ _ _ _ _ => er_alen rfl,
  fun _ _ _ _ _ _ _ _ => er_go rfl rfl,
  fun _ _ _ _ _ _ _ => er_go rfl rfl,
  fun _ _ _ _ _ _ _ _ => er_if_gt rfl,
  fun _ _ _ _ _ _ _ => er_go rfl rfl,
  fun _ _ _ _ _ _ => er_go rfl rfl,
  fun _ _ _ _ _ _ _ _ => er_get1 rfl,
  fun _ _ _ _ _ _ _ => er_go rfl rfl,
  fun _ _ _ _ _ _ _ _ _ => er_ac_eq rfl,
  fun _ _ _ _ _ _ _ => er_go rfl rfl,
  fun _ _ _ _ _ _ _ => er_go rfl rfl,
  fun _ _ _ _ _ _ _ => er_go rfl rfl,
  fun _ _ _ _ _ _ _ _ _ => er_go rfl rfl,
  fun _ _ _ _ _ _ _ => er_go rfl rfl,
  fun _ _ _ _ _ _ _ => er_go rfl rfl,
  fun _ _ _ _ _ _ _ _ _ => er_go rfl rfl,
  fun _ _ _ _ _ _ _ _ _ => er_callS rfl rfl rfl,
  fun _ _ _ _ _ _ _ _ => er_go rfl rfl,
  fun _ _ _ _ _ _ _ => er_go rfl rfl,
  fun _ _ _ _ _ _ => er_go rfl rfl,
  fun _ _ _ _ _ _ _ => er_go rfl rfl,
  fun _ _ _ _ _ _ => er_go rfl rfl,
  fun _ _ _ _ _ _ _ _ => er_get1 rfl,
  fun _ _ _ _ _ _ _ => er_go rfl rfl,
  fun _ _ _ _ _ _ _ _ _ => er_callS rfl rfl rfl,
  fun _ _ _ _ _ _ _ _ _ => er_go rfl rfl,
  fun _ _ _ _ _ _ _ _ _ => er_put1 rfl rfl,
  fun _ _ _ _ _ _ _ => er_ret rfl rfl,
  fun _ _ _ _ _ _ => er_ret rfl rfl,
  fun _ _ _ _ _ _ _ => er_go rfl rfl,
  fun _ _ _ _ _ _ => er_go rfl rfl,
  fun _ _ _ _ _ _ _ => er_go rfl rfl,
  fun _ _ _ _ _ _ _ => er_go rfl rfl,
  fun _ _ _ _ _ _ _ _ _ => er_callS rfl rfl rfl,
  fun _ _ _ _ _ _ _ _ => er_newa rfl rfl,
  fun _ _ _ _ _ _ _ _ _ => er_go rfl rfl,
  fun _ _ _ _ _ _ _ _ _ => er_put1 rfl rfl,
  fun _ _ _ _ _ _ _ => er_ret rfl rfl,
  fun _ _ _ _ _ _ => er_ret rfl rfl⟩
set_option maxRecDepth 100000 in
/-- java/util/ArrayList.grow()[Ljava/lang/Object; -/
theorem r117 : (∀ (P : Nat × Nat) (a0 : Nat) (s : List Value) (h : am_H), am_E P 117 0 [some (.ref a0)] s h = am_E P 117 1 [some (.ref a0)] (.ref a0 :: s) h) ∧
  (∀ (P : Nat × Nat) (s : List Value) (h : am_H), am_E P 117 0 [some .null] s h = am_E P 117 1 [some .null] (.null :: s) h) ∧
  (∀ (P : Nat × Nat) (a0 : Nat) (s : List Value) (h : am_H), am_E P 117 1 [some (.ref a0)] s h = am_E P 117 2 [some (.ref a0)] (.ref a0 :: s) h) ∧
  (∀ (P : Nat × Nat) (s : List Value) (h : am_H), am_E P 117 1 [some .null] s h = am_E P 117 2 [some .null] (.null :: s) h) ∧
  (∀ (P : Nat × Nat) (l0 : Option Value) (a0 : Nat) (s : List Value) (h : am_H), am_E P 117 2 [l0] (.ref a0 :: s) h = (am_g1 h a0 0 2).bind (fun v => am_E P 117 5 [l0] (v :: s) h)) ∧
  (∀ (P : Nat × Nat) (l0 : Option Value) (s : List Value) (h : am_H), am_E P 117 5 [l0] s h = am_E P 117 6 [l0] (.int 1 :: s) h) ∧
  (∀ (P : Nat × Nat) (l0 : Option Value) (x0 : Int32) (x1 : Int32) (s : List Value) (h : am_H), am_E P 117 6 [l0] (.int x1 :: .int x0 :: s) h = am_E P 117 7 [l0] (.int (x0 + x1) :: s) h) ∧
  (∀ (P : Nat × Nat) (l0 : Option Value) (a0 : Nat) (x0 : Int32) (h : am_H), am_E P 117 7 [l0] [.int x0, .ref a0] h = if am_cls h a0 = some 0 then (am_E P 116 0 [some (.ref a0), some (.int x0), none, none] [] h).bind (fun q => am_E P 117 10 [l0] (q.1.toList ++ []) q.2) else none) ∧
  (∀ (P : Nat × Nat) (l0 : Option Value) (a0 : Nat) (h : am_H), am_E P 117 10 [l0] [.ref a0] h = some (some (.ref a0), h)) ∧
  (∀ (P : Nat × Nat) (l0 : Option Value) (h : am_H), am_E P 117 10 [l0] [.null] h = some (some .null, h)) :=
  ⟨fun _ _ _ _ => er_go rfl rfl,
  fun _ _ _ => er_go rfl rfl,
  fun _ _ _ _ => er_go rfl rfl,
  fun _ _ _ => er_go rfl rfl,
  fun _ _ _ _ _ => er_get1 rfl,
  fun _ _ _ _ => er_go rfl rfl,
  fun _ _ _ _ _ _ => er_go rfl rfl,
  fun _ _ _ _ _ => er_callV rfl rfl rfl rfl,
  fun _ _ _ _ => er_ret rfl rfl,
  fun _ _ _ => er_ret rfl rfl⟩
set_option maxRecDepth 100000 in
/-- java/util/ArrayList.size()I -/
theorem r118 : (∀ (P : Nat × Nat) (a0 : Nat) (s : List Value) (h : am_H), am_E P 118 0 [some (.ref a0)] s h = am_E P 118 1 [some (.ref a0)] (.ref a0 :: s) h) ∧
  (∀ (P : Nat × Nat) (s : List Value) (h : am_H), am_E P 118 0 [some .null] s h = am_E P 118 1 [some .null] (.null :: s) h) ∧
  (∀ (P : Nat × Nat) (l0 : Option Value) (a0 : Nat) (s : List Value) (h : am_H), am_E P 118 1 [l0] (.ref a0 :: s) h = (am_g1 h a0 0 2).bind (fun v => am_E P 118 4 [l0] (v :: s) h)) ∧
  (∀ (P : Nat × Nat) (l0 : Option Value) (x0 : Int32) (h : am_H), am_E P 118 4 [l0] [.int x0] h = some (some (.int x0), h)) :=
  ⟨fun _ _ _ _ => er_go rfl rfl,
  fun _ _ _ => er_go rfl rfl,
  fun _ _ _ _ _ => er_get1 rfl,
  fun _ _ _ _ => er_ret rfl rfl⟩
set_option maxRecDepth 100000 in
/-- java/util/ArrayList.elementData(I)Ljava/lang/Object; -/
theorem r119 : (∀ (P : Nat × Nat) (l1 : Option Value) (a0 : Nat) (s : List Value) (h : am_H), am_E P 119 0 [some (.ref a0), l1] s h = am_E P 119 1 [some (.ref a0), l1] (.ref a0 :: s) h) ∧
  (∀ (P : Nat × Nat) (l1 : Option Value) (s : List Value) (h : am_H), am_E P 119 0 [some .null, l1] s h = am_E P 119 1 [some .null, l1] (.null :: s) h) ∧
  (∀ (P : Nat × Nat) (l0 : Option Value) (l1 : Option Value) (a0 : Nat) (s : List Value) (h : am_H), am_E P 119 1 [l0, l1] (.ref a0 :: s) h = (am_g1 h a0 0 1).bind (fun v => am_E P 119 4 [l0, l1] (v :: s) h)) ∧
  (∀ (P : Nat × Nat) (l0 : Option Value) (x0 : Int32) (s : List Value) (h : am_H), am_E P 119 4 [l0, some (.int x0)] s h = am_E P 119 5 [l0, some (.int x0)] (.int x0 :: s) h) ∧
  (∀ (P : Nat × Nat) (l0 : Option Value) (l1 : Option Value) (x0 : Int32) (a0 : Nat) (s : List Value) (h : am_H), am_E P 119 5 [l0, l1] (.int x0 :: .ref a0 :: s) h = (am_aald h a0 x0).bind (fun v => am_E P 119 6 [l0, l1] (va_rf v :: s) h)) ∧
  (∀ (P : Nat × Nat) (l0 : Option Value) (l1 : Option Value) (a0 : Nat) (h : am_H), am_E P 119 6 [l0, l1] [.ref a0] h = some (some (.ref a0), h)) ∧
  (∀ (P : Nat × Nat) (l0 : Option Value) (l1 : Option Value) (h : am_H), am_E P 119 6 [l0, l1] [.null] h = some (some .null, h)) :=
  ⟨fun _ _ _ _ _ => er_go rfl rfl,
  fun _ _ _ _ => er_go rfl rfl,
  fun _ _ _ _ _ _ => er_get1 rfl,
  fun _ _ _ _ _ => er_go rfl rfl,
  fun _ _ _ _ _ _ _ => er_aald rfl,
  fun _ _ _ _ _ => er_ret rfl rfl,
  fun _ _ _ _ => er_ret rfl rfl⟩
set_option maxRecDepth 100000 in
/-- java/util/ArrayList.get(I)Ljava/lang/Object; -/
theorem r120 : (∀ (P : Nat × Nat) (l0 : Option Value) (x0 : Int32) (s : List Value) (h : am_H), am_E P 120 0 [l0, some (.int x0)] s h = am_E P 120 1 [l0, some (.int x0)] (.int x0 :: s) h) ∧
  (∀ (P : Nat × Nat) (l1 : Option Value) (a0 : Nat) (s : List Value) (h : am_H), am_E P 120 1 [some (.ref a0), l1] s h = am_E P 120 2 [some (.ref a0), l1] (.ref a0 :: s) h) ∧
  (∀ (P : Nat × Nat) (l1 : Option Value) (s : List Value) (h : am_H), am_E P 120 1 [some .null, l1] s h = am_E P 120 2 [some .null, l1] (.null :: s) h) ∧
  (∀ (P : Nat × Nat) (l0 : Option Value) (l1 : Option Value) (a0 : Nat) (s : List Value) (h : am_H), am_E P 120 2 [l0, l1] (.ref a0 :: s) h = (am_g1 h a0 0 2).bind (fun v => am_E P 120 5 [l0, l1] (v :: s) h)) ∧
  (∀ (P : Nat × Nat) (l0 : Option Value) (l1 : Option Value) (x0 : Int32) (x1 : Int32) (h : am_H), am_E P 120 5 [l0, l1] [.int x1, .int x0] h = (am_E P 127 0 [some (.int x0), some (.int x1)] [] h).bind (fun q => am_E P 120 8 [l0, l1] (q.1.toList ++ []) q.2)) ∧
  (∀ (P : Nat × Nat) (l0 : Option Value) (l1 : Option Value) (x0 : Int32) (s : List Value) (h : am_H), am_E P 120 8 [l0, l1] (.int x0 :: s) h = am_E P 120 9 [l0, l1] s h) ∧
  (∀ (P : Nat × Nat) (l1 : Option Value) (a0 : Nat) (s : List Value) (h : am_H), am_E P 120 9 [some (.ref a0), l1] s h = am_E P 120 10 [some (.ref a0), l1] (.ref a0 :: s) h) ∧
  (∀ (P : Nat × Nat) (l1 : Option Value) (s : List Value) (h : am_H), am_E P 120 9 [some .null, l1] s h = am_E P 120 10 [some .null, l1] (.null :: s) h) ∧
  (∀ (P : Nat × Nat) (l0 : Option Value) (x0 : Int32) (s : List Value) (h : am_H), am_E P 120 10 [l0, some (.int x0)] s h = am_E P 120 11 [l0, some (.int x0)] (.int x0 :: s) h) ∧
  (∀ (P : Nat × Nat) (l0 : Option Value) (l1 : Option Value) (a0 : Nat) (x0 : Int32) (h : am_H), am_E P 120 11 [l0, l1] [.int x0, .ref a0] h = if am_cls h a0 = some 0 then (am_E P 119 0 [some (.ref a0), some (.int x0)] [] h).bind (fun q => am_E P 120 14 [l0, l1] (q.1.toList ++ []) q.2) else none) ∧
  (∀ (P : Nat × Nat) (l0 : Option Value) (l1 : Option Value) (a0 : Nat) (h : am_H), am_E P 120 14 [l0, l1] [.ref a0] h = some (some (.ref a0), h)) ∧
  (∀ (P : Nat × Nat) (l0 : Option Value) (l1 : Option Value) (h : am_H), am_E P 120 14 [l0, l1] [.null] h = some (some .null, h)) :=
  ⟨fun _ _ _ _ _ => er_go rfl rfl,
  fun _ _ _ _ _ => er_go rfl rfl,
  fun _ _ _ _ => er_go rfl rfl,
  fun _ _ _ _ _ _ => er_get1 rfl,
  fun _ _ _ _ _ _ => er_callS rfl rfl rfl,
  fun _ _ _ _ _ _ => er_go rfl rfl,
  fun _ _ _ _ _ => er_go rfl rfl,
  fun _ _ _ _ => er_go rfl rfl,
  fun _ _ _ _ _ => er_go rfl rfl,
  fun _ _ _ _ _ _ => er_callV rfl rfl rfl rfl,
  fun _ _ _ _ _ => er_ret rfl rfl,
  fun _ _ _ _ => er_ret rfl rfl⟩
set_option maxRecDepth 100000 in
/-- java/util/ArrayList.add(Ljava/lang/Object;[Ljava/lang/Object;I)V -/
theorem r121 : (∀ (P : Nat × Nat) (l0 : Option Value) (l1 : Option Value) (l2 : Option Value) (x0 : Int32) (s : List Value) (h : am_H), am_E P 121 0 [l0, l1, l2, some (.int x0)] s h = am_E P 121 1 [l0, l1, l2, some (.int x0)] (.int x0 :: s) h) ∧
  (∀ (P : Nat × Nat) (l0 : Option Value) (l1 : Option Value) (l3 : Option Value) (a0 : Nat) (s : List Value) (h : am_H), am_E P 121 1 [l0, l1, some (.ref a0), l3] s h = am_E P 121 2 [l0, l1, some (.ref a0), l3] (.ref a0 :: s) h) ∧
  (∀ (P : Nat × Nat) (l0 : Option Value) (l1 : Option Value) (l3 : Option Value) (s : List Value) (h : am_H), am_E P 121 1 [l0, l1, some .null, l3] s h = am_E P 121 2 [l0, l1, some .null, l3] (.null :: s) h) ∧
  (∀ (P : Nat × Nat) (l0 : Option Value) (l1 : Option Value) (l2 : Option Value) (l3 : Option Value) (a0 : Nat) (s : List Value) (h : am_H), am_E P 121 2 [l0, l1, l2, l3] (.ref a0 :: s) h = (am_alen h a0).bind (fun v => am_E P 121 3 [l0, l1, l2, l3] (.int v :: s) h)) ∧
  (∀ (P : Nat × Nat) (l0 : Option Value) (l1 : Option Value) (l2 : Option Value) (l3 : Option Value) (x0 : Int32) (x1 : Int32) (s : List Value) (h : am_H), am_E P 121 3 [l0, l1, l2, l3] (.int x1 :: .int x0 :: s) h = if x0 = x1 then am_E P 121 6 [l0, l1, l2, l3] s h else am_E P 121 11 [l0, l1, l2, l3] s h) ∧
  (∀ (P : Nat × Nat) (l1 : Option Value) (l2 : Option Value) (l3 : Option Value) (a0 : Nat) (s : List Value) (h : am_H), am_E P 121 6 [some (.ref a0), l1, l2, l3] s h = am_E P 121 7 [some (.ref a0), l1, l2, l3] (.ref a0 :: s) h) ∧
  (∀ (P : Nat × Nat) (l1 : Option Value) (l2 : Option Value) (l3 : Option Value) (s : List Value) (h : am_H), am_E P 121 6 [some .null, l1, l2, l3] s h = am_E P 121 7 [some .null, l1, l2, l3] (.null :: s) h) ∧
  (∀ (P : Nat × Nat) (l0 : Option Value) (l1 : Option Value) (l2 : Option Value) (l3 : Option Value) (a0 : Nat) (h : am_H), am_E P 121 7 [l0, l1, l2, l3] [.ref a0] h = if am_cls h a0 = some 0 then (am_E P 117 0 [some (.ref a0)] [] h).bind (fun q => am_E P 121 10 [l0, l1, l2, l3] (q.1.toList ++ []) q.2) else none) ∧
  (∀ (P : Nat × Nat) (l0 : Option Value) (l1 : Option Value) (l2 : Option Value) (l3 : Option Value) (a0 : Nat) (s : List Value) (h : am_H), am_E P 121 10 [l0, l1, l2, l3] (.ref a0 :: s) h = am_E P 121 11 [l0, l1, some (.ref a0), l3] s h) ∧
  (∀ (P : Nat × Nat) (l0 : Option Value) (l1 : Option Value) (l2 : Option Value) (l3 : Option Value) (s : List Value) (h : am_H), am_E P 121 10 [l0, l1, l2, l3] (.null :: s) h = am_E P 121 11 [l0, l1, some .null, l3] s h) ∧
  (∀ (P : Nat × Nat) (l0 : Option Value) (l1 : Option Value) (l3 : Option Value) (a0 : Nat) (s : List Value) (h : am_H), am_E P 121 11 [l0, l1, some (.ref a0), l3] s h = am_E P 121 12 [l0, l1, some (.ref a0), l3] (.ref a0 :: s) h) ∧
  (∀ (P : Nat × Nat) (l0 : Option Value) (l1 : Option Value) (l3 : Option Value) (s : List Value) (h : am_H), am_E P 121 11 [l0, l1, some .null, l3] s h = am_E P 121 12 [l0, l1, some .null, l3] (.null :: s) h) ∧
  (∀ (P : Nat × Nat) (l0 : Option Value) (l1 : Option Value) (l2 : Option Value) (x0 : Int32) (s : List Value) (h : am_H), am_E P 121 12 [l0, l1, l2, some (.int x0)] s h = am_E P 121 13 [l0, l1, l2, some (.int x0)] (.int x0 :: s) h) ∧
  (∀ (P : Nat × Nat) (l0 : Option Value) (l2 : Option Value) (l3 : Option Value) (a0 : Nat) (s : List Value) (h : am_H), am_E P 121 13 [l0, some (.ref a0), l2, l3] s h = am_E P 121 14 [l0, some (.ref a0), l2, l3] (.ref a0 :: s) h) ∧
  (∀ (P : Nat × Nat) (l0 : Option Value) (l2 : Option Value) (l3 : Option Value) (s : List Value) (h : am_H), am_E P 121 13 [l0, some .null, l2, l3] s h = am_E P 121 14 [l0, some .null, l2, l3] (.null :: s) h) ∧
  (∀ (P : Nat × Nat) (l0 : Option Value) (l1 : Option Value) (l2 : Option Value) (l3 : Option Value) (x0 : Int32) (a0 : Nat) (a1 : Nat) (s : List Value) (h : am_H), am_E P 121 14 [l0, l1, l2, l3] (.ref a1 :: .int x0 :: .ref a0 :: s) h = (am_aast h a0 x0 a1).bind (fun h => am_E P 121 15 [l0, l1, l2, l3] s h)) ∧
  (∀ (P : Nat × Nat) (l1 : Option Value) (l2 : Option Value) (l3 : Option Value) (a0 : Nat) (s : List Value) (h : am_H), am_E P 121 15 [some (.ref a0), l1, l2, l3] s h = am_E P 121 16 [some (.ref a0), l1, l2, l3] (.ref a0 :: s) h) ∧
  (∀ (P : Nat × Nat) (l1 : Option Value) (l2 : Option Value) (l3 : Option Value) (s : List Value) (h : am_H), am_E P 121 15 [some .null, l1, l2, l3] s h = am_E P 121 16 [some .null, l1, l2, l3] (.null :: s) h) ∧
  (∀ (P : Nat × Nat) (l0 : Option Value) (l1 : Option Value) (l2 : Option Value) (x0 : Int32) (s : List Value) (h : am_H), am_E P 121 16 [l0, l1, l2, some (.int x0)] s h = am_E P 121 17 [l0, l1, l2, some (.int x0)] (.int x0 :: s) h) ∧
  (∀ (P : Nat × Nat) (l0 : Option Value) (l1 : Option Value) (l2 : Option Value) (l3 : Option Value) (s : List Value) (h : am_H), am_E P 121 17 [l0, l1, l2, l3] s h = am_E P 121 18 [l0, l1, l2, l3] (.int 1 :: s) h) ∧
  (∀ (P : Nat × Nat) (l0 : Option Value) (l1 : Option Value) (l2 : Option Value) (l3 : Option Value) (x0 : Int32) (x1 : Int32) (s : List Value) (h : am_H), am_E P 121 18 [l0, l1, l2, l3] (.int x1 :: .int x0 :: s) h = am_E P 121 19 [l0, l1, l2, l3] (.int (x0 + x1) :: s) h) ∧
  (∀ (P : Nat × Nat) (l0 : Option Value) (l1 : Option Value) (l2 : Option Value) (l3 : Option Value) (a0 : Nat) (x0 : Int32) (s : List Value) (h : am_H), am_E P 121 19 [l0, l1, l2, l3] (.int x0 :: .ref a0 :: s) h = (am_p1 h a0 0 2 (.int x0)).bind (fun h => am_E P 121 22 [l0, l1, l2, l3] s h)) ∧
  (∀ (P : Nat × Nat) (l0 : Option Value) (l1 : Option Value) (l2 : Option Value) (l3 : Option Value) (h : am_H), am_E P 121 22 [l0, l1, l2, l3] [] h = some (none, h)) :=
  ⟨fun _ _ _ _ _ _ _ => er_go rfl rfl,
  fun _ _ _ _ _ _ _ => er_go rfl rfl,
  fun _ _ _ _ _ _ => er_go rfl rfl,
  fun _ _ _ _ _ _ _ _ => er_alen rfl,
  fun _ _ _ _ _ _ _ _ _ => er_ic_ne rfl,
  fun _ _ _ _ _ _ _ => er_go rfl rfl,
  fun _ _ _ _ _ _ => er_go rfl rfl,
  fun _ _ _ _ _ _ _ => er_callV rfl rfl rfl rfl,
  fun _ _ _ _ _ _ _ _ => er_go rfl rfl,
  fun _ _ _ _ _ _ _ => er_go rfl rfl,
  fun _ _ _ _ _ _ _ => er_go rfl rfl,
  fun _ _ _ _ _ _ => er_go rfl rfl,
  fun _ _ _ _ _ _ _ => er_go rfl rfl,
  fun _ _ _ _ _ _ _ => er_go rfl rfl,
  fun _ _ _ _ _ _ => er_go rfl rfl,
  fun _ _ _ _ _ _ _ _ _ _ => er_aast rfl,
  fun _ _ _ _ _ _ _ => er_go rfl rfl,
  fun _ _ _ _ _ _ => er_go rfl rfl,
  fun _ _ _ _ _ _ _ => er_go rfl rfl,
  fun _ _ _ _ _ _ _ => er_go rfl rfl,
  fun _ _ _ _ _ _ _ _ _ => er_go rfl rfl,
  fun _ _ _ _ _ _ _ _ _ => er_put1 rfl rfl,
  fun _ _ _ _ _ _ => er_ret rfl rfl⟩
set_option maxRecDepth 100000 in
/-- java/util/ArrayList.add(Ljava/lang/Object;)Z -/
theorem r122 : (∀ (P : Nat × Nat) (l1 : Option Value) (a0 : Nat) (s : List Value) (h : am_H), am_E P 122 0 [some (.ref a0), l1] s h = am_E P 122 1 [some (.ref a0), l1] (.ref a0 :: s) h) ∧
  (∀ (P : Nat × Nat) (l1 : Option Value) (s : List Value) (h : am_H), am_E P 122 0 [some .null, l1] s h = am_E P 122 1 [some .null, l1] (.null :: s) h) ∧
  (∀ (P : Nat × Nat) (l0 : Option Value) (l1 : Option Value) (a0 : Nat) (s : List Value) (h : am_H), am_E P 122 1 [l0, l1] (.ref a0 :: s) h = am_E P 122 2 [l0, l1] (.ref a0 :: .ref a0 :: s) h) ∧
  (∀ (P : Nat × Nat) (l0 : Option Value) (l1 : Option Value) (a0 : Nat) (s : List Value) (h : am_H), am_E P 122 2 [l0, l1] (.ref a0 :: s) h = (am_g1 h a0 0 0).bind (fun v => am_E P 122 5 [l0, l1] (v :: s) h)) ∧
  (∀ (P : Nat × Nat) (l0 : Option Value) (l1 : Option Value) (s : List Value) (h : am_H), am_E P 122 5 [l0, l1] s h = am_E P 122 6 [l0, l1] (.int 1 :: s) h) ∧
  (∀ (P : Nat × Nat) (l0 : Option Value) (l1 : Option Value) (x0 : Int32) (x1 : Int32) (s : List Value) (h : am_H), am_E P 122 6 [l0, l1] (.int x1 :: .int x0 :: s) h = am_E P 122 7 [l0, l1] (.int (x0 + x1) :: s) h) ∧
  (∀ (P : Nat × Nat) (l0 : Option Value) (l1 : Option Value) (a0 : Nat) (x0 : Int32) (s : List Value) (h : am_H), am_E P 122 7 [l0, l1] (.int x0 :: .ref a0 :: s) h = (am_p1 h a0 0 0 (.int x0)).bind (fun h => am_E P 122 10 [l0, l1] s h)) ∧
  (∀ (P : Nat × Nat) (l1 : Option Value) (a0 : Nat) (s : List Value) (h : am_H), am_E P 122 10 [some (.ref a0), l1] s h = am_E P 122 11 [some (.ref a0), l1] (.ref a0 :: s) h) ∧
  (∀ (P : Nat × Nat) (l1 : Option Value) (s : List Value) (h : am_H), am_E P 122 10 [some .null, l1] s h = am_E P 122 11 [some .null, l1] (.null :: s) h) ∧
  (∀ (P : Nat × Nat) (l0 : Option Value) (a0 : Nat) (s : List Value) (h : am_H), am_E P 122 11 [l0, some (.ref a0)] s h = am_E P 122 12 [l0, some (.ref a0)] (.ref a0 :: s) h) ∧
  (∀ (P : Nat × Nat) (l0 : Option Value) (s : List Value) (h : am_H), am_E P 122 11 [l0, some .null] s h = am_E P 122 12 [l0, some .null] (.null :: s) h) ∧
  (∀ (P : Nat × Nat) (l1 : Option Value) (a0 : Nat) (s : List Value) (h : am_H), am_E P 122 12 [some (.ref a0), l1] s h = am_E P 122 13 [some (.ref a0), l1] (.ref a0 :: s) h) ∧
  (∀ (P : Nat × Nat) (l1 : Option Value) (s : List Value) (h : am_H), am_E P 122 12 [some .null, l1] s h = am_E P 122 13 [some .null, l1] (.null :: s) h) ∧
  (∀ (P : Nat × Nat) (l0 : Option Value) (l1 : Option Value) (a0 : Nat) (s : List Value) (h : am_H), am_E P 122 13 [l0, l1] (.ref a0 :: s) h = (am_g1 h a0 0 1).bind (fun v => am_E P 122 16 [l0, l1] (v :: s) h)) ∧
  (∀ (P : Nat × Nat) (l1 : Option Value) (a0 : Nat) (s : List Value) (h : am_H), am_E P 122 16 [some (.ref a0), l1] s h = am_E P 122 17 [some (.ref a0), l1] (.ref a0 :: s) h) ∧
  (∀ (P : Nat × Nat) (l1 : Option Value) (s : List Value) (h : am_H), am_E P 122 16 [some .null, l1] s h = am_E P 122 17 [some .null, l1] (.null :: s) h) ∧
  (∀ (P : Nat × Nat) (l0 : Option Value) (l1 : Option Value) (a0 : Nat) (s : List Value) (h : am_H), am_E P 122 17 [l0, l1] (.ref a0 :: s) h = (am_g1 h a0 0 2).bind (fun v => am_E P 122 20 [l0, l1] (v :: s) h)) ∧
  (∀ (P : Nat × Nat) (l0 : Option Value) (l1 : Option Value) (a0 : Nat) (a1 : Nat) (a2 : Nat) (x2 : Int32) (h : am_H), am_E P 122 20 [l0, l1] [.int x2, .ref a2, .ref a1, .ref a0] h = if am_cls h a0 = some 0 then (am_E P 121 0 [some (.ref a0), some (.ref a1), some (.ref a2), some (.int x2)] [] h).bind (fun q => am_E P 122 23 [l0, l1] (q.1.toList ++ []) q.2) else none) ∧
  (∀ (P : Nat × Nat) (l0 : Option Value) (l1 : Option Value) (s : List Value) (h : am_H), am_E P 122 23 [l0, l1] s h = am_E P 122 24 [l0, l1] (.int 1 :: s) h) ∧
  (∀ (P : Nat × Nat) (l0 : Option Value) (l1 : Option Value) (x0 : Int32) (h : am_H), am_E P 122 24 [l0, l1] [.int x0] h = if x0 = 0 ∨ x0 = 1 then some (some (.int x0), h) else none) :=
  ⟨fun _ _ _ _ _ => er_go rfl rfl,
  fun _ _ _ _ => er_go rfl rfl,
  fun _ _ _ _ _ _ => er_go rfl rfl,
  fun _ _ _ _ _ _ => er_get1 rfl,
  fun _ _ _ _ _ => er_go rfl rfl,
  fun _ _ _ _ _ _ _ => er_go rfl rfl,
  fun _ _ _ _ _ _ _ => er_put1 rfl rfl,
  fun _ _ _ _ _ => er_go rfl rfl,
  fun _ _ _ _ => er_go rfl rfl,
  fun _ _ _ _ _ => er_go rfl rfl,
  fun _ _ _ _ => er_go rfl rfl,
  fun _ _ _ _ _ => er_go rfl rfl,
  fun _ _ _ _ => er_go rfl rfl,
  fun _ _ _ _ _ _ => er_get1 rfl,
  fun _ _ _ _ _ => er_go rfl rfl,
  fun _ _ _ _ => er_go rfl rfl,
  fun _ _ _ _ _ _ => er_get1 rfl,
  fun _ _ _ _ _ _ _ _ => er_callV rfl rfl rfl rfl,
  fun _ _ _ _ _ => er_go rfl rfl,
  fun _ _ _ _ _ => er_retZ rfl rfl⟩
set_option maxRecDepth 100000 in
/-- java/util/Arrays.fill([II)V -/
theorem r123 : (∀ (P : Nat × Nat) (l0 : Option Value) (l1 : Option Value) (l2 : Option Value) (l3 : Option Value) (s : List Value) (h : am_H), am_E P 123 0 [l0, l1, l2, l3] s h = am_E P 123 1 [l0, l1, l2, l3] (.int 0 :: s) h) ∧
  (∀ (P : Nat × Nat) (l0 : Option Value) (l1 : Option Value) (l2 : Option Value) (l3 : Option Value) (x0 : Int32) (s : List Value) (h : am_H), am_E P 123 1 [l0, l1, l2, l3] (.int x0 :: s) h = am_E P 123 2 [l0, l1, some (.int x0), l3] s h) ∧
  (∀ (P : Nat × Nat) (l1 : Option Value) (l2 : Option Value) (l3 : Option Value) (a0 : Nat) (s : List Value) (h : am_H), am_E P 123 2 [some (.ref a0), l1, l2, l3] s h = am_E P 123 3 [some (.ref a0), l1, l2, l3] (.ref a0 :: s) h) ∧
  (∀ (P : Nat × Nat) (l1 : Option Value) (l2 : Option Value) (l3 : Option Value) (s : List Value) (h : am_H), am_E P 123 2 [some .null, l1, l2, l3] s h = am_E P 123 3 [some .null, l1, l2, l3] (.null :: s) h) ∧
  (∀ (P : Nat × Nat) (l0 : Option Value) (l1 : Option Value) (l2 : Option Value) (l3 : Option Value) (a0 : Nat) (s : List Value) (h : am_H), am_E P 123 3 [l0, l1, l2, l3] (.ref a0 :: s) h = (am_alen h a0).bind (fun v => am_E P 123 4 [l0, l1, l2, l3] (.int v :: s) h)) ∧
  (∀ (P : Nat × Nat) (l0 : Option Value) (l1 : Option Value) (l2 : Option Value) (l3 : Option Value) (x0 : Int32) (s : List Value) (h : am_H), am_E P 123 4 [l0, l1, l2, l3] (.int x0 :: s) h = am_E P 123 5 [l0, l1, l2, some (.int x0)] s h) ∧
  (∀ (P : Nat × Nat) (l0 : Option Value) (l1 : Option Value) (l2 : Option Value) (x0 : Int32) (s : List Value) (h : am_H), am_E P 123 6 [l0, l1, l2, some (.int x0)] s h = am_E P 123 7 [l0, l1, l2, some (.int x0)] (.int x0 :: s) h) ∧
  (∀ (P : Nat × Nat) (l0 : Option Value) (l1 : Option Value) (l2 : Option Value) (l3 : Option Value) (x0 : Int32) (x1 : Int32) (s : List Value) (h : am_H), am_E P 123 7 [l0, l1, l2, l3] (.int x1 :: .int x0 :: s) h = if x1 ≤ x0 then am_E P 123 20 [l0, l1, l2, l3] s h else am_E P 123 10 [l0, l1, l2, l3] s h) ∧
  (∀ (P : Nat × Nat) (l1 : Option Value) (l2 : Option Value) (l3 : Option Value) (a0 : Nat) (s : List Value) (h : am_H), am_E P 123 10 [some (.ref a0), l1, l2, l3] s h = am_E P 123 11 [some (.ref a0), l1, l2, l3] (.ref a0 :: s) h) ∧
  (∀ (P : Nat × Nat) (l1 : Option Value) (l2 : Option Value) (l3 : Option Value) (s : List Value) (h : am_H), am_E P 123 10 [some .null, l1, l2, l3] s h = am_E P 123 11 [some .null, l1, l2, l3] (.null :: s) h) ∧
  (∀ (P : Nat × Nat) (l0 : Option Value) (l1 : Option Value) (l3 : Option Value) (x0 : Int32) (s : List Value) (h : am_H), am_E P 123 11 [l0, l1, some (.int x0), l3] s h = am_E P 123 12 [l0, l1, some (.int x0), l3] (.int x0 :: s) h) ∧
  (∀ (P : Nat × Nat) (l0 : Option Value) (l2 : Option Value) (l3 : Option Value) (x0 : Int32) (s : List Value) (h : am_H), am_E P 123 12 [l0, some (.int x0), l2, l3] s h = am_E P 123 13 [l0, some (.int x0), l2, l3] (.int x0 :: s) h) ∧
  (∀ (P : Nat × Nat) (l0 : Option Value) (l1 : Option Value) (l2 : Option Value) (l3 : Option Value) (x0 : Int32) (x1 : Int32) (a0 : Nat) (s : List Value) (h : am_H), am_E P 123 13 [l0, l1, l2, l3] (.int x1 :: .int x0 :: .ref a0 :: s) h = (am_iast h a0 x0 x1).bind (fun h => am_E P 123 14 [l0, l1, l2, l3] s h)) ∧
  (∀ (P : Nat × Nat) (l0 : Option Value) (l1 : Option Value) (l3 : Option Value) (x0 : Int32) (s : List Value) (h : am_H), am_E P 123 14 [l0, l1, some (.int x0), l3] s h = am_E P 123 17 [l0, l1, some (.int (x0 + 1)), l3] s h) ∧
  (∀ (P : Nat × Nat) (l0 : Option Value) (l1 : Option Value) (l2 : Option Value) (l3 : Option Value) (s : List Value) (h : am_H), am_E P 123 17 [l0, l1, l2, l3] s h = am_E P 123 5 [l0, l1, l2, l3] s h) ∧
  (∀ (P : Nat × Nat) (l0 : Option Value) (l1 : Option Value) (l2 : Option Value) (l3 : Option Value) (h : am_H), am_E P 123 20 [l0, l1, l2, l3] [] h = some (none, h)) :=
  ⟨fun _ _ _ _ _ _ _ => er_go rfl rfl,
  fun _ _ _ _ _ _ _ _ => er_go rfl rfl,
  fun _ _ _ _ _ _ _ => er_go rfl rfl,
  fun _ _ _ _ _ _ => er_go rfl rfl,
  fun _ _ _ _ _ _ _ _ => er_alen rfl,
  fun _ _ _ _ _ _ _ _ => er_go rfl rfl,
  fun _ _ _ _ _ _ _ => er_go rfl rfl,
  fun _ _ _ _ _ _ _ _ _ => er_ic_ge rfl,
  fun _ _ _ _ _ _ _ => er_go rfl rfl,
  fun _ _ _ _ _ _ => er_go rfl rfl,
  fun _ _ _ _ _ _ _ => er_go rfl rfl,
  fun _ _ _ _ _ _ _ => er_go rfl rfl,
  fun _ _ _ _ _ _ _ _ _ _ => er_iast rfl,
  fun _ _ _ _ _ _ _ => er_go rfl rfl,
  fun _ _ _ _ _ _ _ => er_go rfl rfl,
  fun _ _ _ _ _ _ => er_ret rfl rfl⟩
set_option maxRecDepth 100000 in
theorem hd123_5 : ∀ (P : Nat × Nat) (l0 : Option Value) (l1 : Option Value) (l3 : Option Value) (x0 : Int32) (s : List Value) (h : am_H), am_E P 123 5 [l0, l1, some (.int x0), l3] s h = am_E P 123 6 [l0, l1, some (.int x0), l3] (.int x0 :: s) h := fun _ _ _ _ _ _ _ => er_go rfl rfl
set_option maxRecDepth 100000 in
/-- java/util/Arrays.copyOf([Ljava/lang/Object;I)[Ljava/lang/Object; -/
theorem r124 : (∀ (P : Nat × Nat) (l1 : Option Value) (a0 : Nat) (s : List Value) (h : am_H), am_E P 124 0 [some (.ref a0), l1] s h = am_E P 124 1 [some (.ref a0), l1] (.ref a0 :: s) h) ∧
  (∀ (P : Nat × Nat) (l1 : Option Value) (s : List Value) (h : am_H), am_E P 124 0 [some .null, l1] s h = am_E P 124 1 [some .null, l1] (.null :: s) h) ∧
  (∀ (P : Nat × Nat) (l0 : Option Value) (x0 : Int32) (s : List Value) (h : am_H), am_E P 124 1 [l0, some (.int x0)] s h = am_E P 124 2 [l0, some (.int x0)] (.int x0 :: s) h) ∧
  (∀ (P : Nat × Nat) (l1 : Option Value) (a0 : Nat) (s : List Value) (h : am_H), am_E P 124 2 [some (.ref a0), l1] s h = am_E P 124 3 [some (.ref a0), l1] (.ref a0 :: s) h) ∧
  (∀ (P : Nat × Nat) (l1 : Option Value) (s : List Value) (h : am_H), am_E P 124 2 [some .null, l1] s h = am_E P 124 3 [some .null, l1] (.null :: s) h) ∧
  (∀ (P : Nat × Nat) (l0 : Option Value) (l1 : Option Value) (a0 : Nat) (v0 : Value) (v1 : Value) (h : am_H), am_E P 124 3 [l0, l1] [.ref a0, v0, v1] h = if am_isR h a0 = true then am_E P 124 6 [l0, l1] [.ref P.2, v0, v1] h else none) ∧
  (∀ (P : Nat × Nat) (l0 : Option Value) (l1 : Option Value) (a1 : Nat) (x1 : Int32) (a3 : Nat) (h : am_H), am_E P 124 6 [l0, l1] [.ref a3, .int x1, .ref a1] h = (am_E P 125 0 [some (.ref a1), some (.int x1), some (.ref a3), none] [] h).bind (fun q => am_E P 124 9 [l0, l1] (q.1.toList ++ []) q.2)) ∧
  (∀ (P : Nat × Nat) (l0 : Option Value) (l1 : Option Value) (a0 : Nat) (h : am_H), am_E P 124 9 [l0, l1] [.ref a0] h = some (some (.ref a0), h)) ∧
  (∀ (P : Nat × Nat) (l0 : Option Value) (l1 : Option Value) (h : am_H), am_E P 124 9 [l0, l1] [.null] h = some (some .null, h)) :=
  ⟨fun _ _ _ _ _ => er_go rfl rfl,
  fun _ _ _ _ => er_go rfl rfl,
  fun _ _ _ _ _ => er_go rfl rfl,
  fun _ _ _ _ _ => er_go rfl rfl,
  fun _ _ _ _ => er_go rfl rfl,
  fun _ _ _ _ _ _ _ => er_getC rfl rfl rfl,
  fun _ _ _ _ _ _ _ => er_callS rfl rfl rfl,
  fun _ _ _ _ _ => er_ret rfl rfl,
  fun _ _ _ _ => er_ret rfl rfl⟩
set_option maxRecDepth 100000 in
/-- java/util/Arrays.copyOf([Ljava/lang/Object;ILjava/lang/Class;)[Ljava/lang/Object; -/
theorem r125 : (∀ (P : Nat × Nat) (l0 : Option Value) (l1 : Option Value) (l3 : Option Value) (a0 : Nat) (s : List Value) (h : am_H), am_E P 125 0 [l0, l1, some (.ref a0), l3] s h = am_E P 125 1 [l0, l1, some (.ref a0), l3] (.ref a0 :: s) h) ∧
  (∀ (P : Nat × Nat) (l0 : Option Value) (l1 : Option Value) (l3 : Option Value) (s : List Value) (h : am_H), am_E P 125 0 [l0, l1, some .null, l3] s h = am_E P 125 1 [l0, l1, some .null, l3] (.null :: s) h) ∧
  (∀ (P : Nat × Nat) (l0 : Option Value) (l1 : Option Value) (l2 : Option Value) (l3 : Option Value) (s : List Value) (h : am_H), am_E P 125 1 [l0, l1, l2, l3] s h = am_E P 125 3 [l0, l1, l2, l3] (.ref P.2 :: s) h) ∧
  (∀ (P : Nat × Nat) (l0 : Option Value) (l1 : Option Value) (l2 : Option Value) (l3 : Option Value) (a0 : Nat) (a1 : Nat) (s : List Value) (h : am_H), am_E P 125 3 [l0, l1, l2, l3] (.ref a1 :: .ref a0 :: s) h = if a0 = a1 then am_E P 125 6 [l0, l1, l2, l3] s h else am_E P 125 13 [l0, l1, l2, l3] s h) ∧
  (∀ (P : Nat × Nat) (l0 : Option Value) (l2 : Option Value) (l3 : Option Value) (x0 : Int32) (s : List Value) (h : am_H), am_E P 125 6 [l0, some (.int x0), l2, l3] s h = am_E P 125 7 [l0, some (.int x0), l2, l3] (.int x0 :: s) h) ∧
  (∀ (P : Nat × Nat) (l0 : Option Value) (l1 : Option Value) (l2 : Option Value) (l3 : Option Value) (x0 : Int32) (s : List Value) (h : am_H), am_E P 125 7 [l0, l1, l2, l3] (.int x0 :: s) h = if x0.toInt < 0 ∨ 1000000 < x0.toInt then none else am_E P 125 10 [l0, l1, l2, l3] (.ref h.1 :: s) (ah_new h x0.toNatClampNeg (ac_R x0.toNatClampNeg (fun _ => none)))) ∧
  (∀ (P : Nat × Nat) (l0 : Option Value) (l1 : Option Value) (l2 : Option Value) (l3 : Option Value) (s : List Value) (h : am_H), am_E P 125 10 [l0, l1, l2, l3] s h = am_E P 125 24 [l0, l1, l2, l3] s h) ∧
  (∀ (P : Nat × Nat) (l0 : Option Value) (l1 : Option Value) (l3 : Option Value) (a0 : Nat) (s : List Value) (h : am_H), am_E P 125 13 [l0, l1, some (.ref a0), l3] s h = am_E P 125 14 [l0, l1, some (.ref a0), l3] (.ref a0 :: s) h) ∧
  (∀ (P : Nat × Nat) (l0 : Option Value) (l1 : Option Value) (l3 : Option Value) (s : List Value) (h : am_H), am_E P 125 13 [l0, l1, some .null, l3] s h = am_E P 125 14 [l0, l1, some .null, l3] (.null :: s) h) ∧
  (∀ (P : Nat × Nat) (l0 : Option Value) (l1 : Option Value) (l2 : Option Value) (l3 : Option Value) (a0 : Nat) (s : List Value) (h : am_H), am_E P 125 24 [l0, l1, l2, l3] (.ref a0 :: s) h = am_E P 125 25 [l0, l1, l2, some (.ref a0)] s h) ∧
  (∀ (P : Nat × Nat) (l0 : Option Value) (l1 : Option Value) (l2 : Option Value) (l3 : Option Value) (s : List Value) (h : am_H), am_E P 125 24 [l0, l1, l2, l3] (.null :: s) h = am_E P 125 25 [l0, l1, l2, some .null] s h) ∧
  (∀ (P : Nat × Nat) (l1 : Option Value) (l2 : Option Value) (l3 : Option Value) (a0 : Nat) (s : List Value) (h : am_H), am_E P 125 25 [some (.ref a0), l1, l2, l3] s h = am_E P 125 26 [some (.ref a0), l1, l2, l3] (.ref a0 :: s) h) ∧
  (∀ (P : Nat × Nat) (l1 : Option Value) (l2 : Option Value) (l3 : Option Value) (s : List Value) (h : am_H), am_E P 125 25 [some .null, l1, l2, l3] s h = am_E P 125 26 [some .null, l1, l2, l3] (.null :: s) h) ∧
  (∀ (P : Nat × Nat) (l0 : Option Value) (l1 : Option Value) (l2 : Option Value) (l3 : Option Value) (s : List Value) (h : am_H), am_E P 125 26 [l0, l1, l2, l3] s h = am_E P 125 27 [l0, l1, l2, l3] (.int 0 :: s) h) ∧
  (∀ (P : Nat × Nat) (l0 : Option Value) (l1 : Option Value) (l2 : Option Value) (a0 : Nat) (s : List Value) (h : am_H), am_E P 125 27 [l0, l1, l2, some (.ref a0)] s h = am_E P 125 28 [l0, l1, l2, some (.ref a0)] (.ref a0 :: s) h) ∧
  (∀ (P : Nat × Nat) (l0 : Option Value) (l1 : Option Value) (l2 : Option Value) (s : List Value) (h : am_H), am_E P 125 27 [l0, l1, l2, some .null] s h = am_E P 125 28 [l0, l1, l2, some .null] (.null :: s) h) ∧
  (∀ (P : Nat × Nat) (l0 : Option Value) (l1 : Option Value) (l2 : Option Value) (l3 : Option Value) (s : List Value) (h : am_H), am_E P 125 28 [l0, l1, l2, l3] s h = am_E P 125 29 [l0, l1, l2, l3] (.int 0 :: s) h) ∧
  (∀ (P : Nat × Nat) (l1 : Option Value) (l2 : Option Value) (l3 : Option Value) (a0 : Nat) (s : List Value) (h : am_H), am_E P 125 29 [some (.ref a0), l1, l2, l3] s h = am_E P 125 30 [some (.ref a0), l1, l2, l3] (.ref a0 :: s) h) ∧
  (∀ (P : Nat × Nat) (l1 : Option Value) (l2 : Option Value) (l3 : Option Value) (s : List Value) (h : am_H), am_E P 125 29 [some .null, l1, l2, l3] s h = am_E P 125 30 [some .null, l1, l2, l3] (.null :: s) h) ∧
  (∀ (P : Nat × Nat) (l0 : Option Value) (l1 : Option Value) (l2 : Option Value) (l3 : Option Value) (a0 : Nat) (s : List Value) (h : am_H), am_E P 125 30 [l0, l1, l2, l3] (.ref a0 :: s) h = (am_alen h a0).bind (fun v => am_E P 125 31 [l0, l1, l2, l3] (.int v :: s) h)) ∧
  (∀ (P : Nat × Nat) (l0 : Option Value) (l2 : Option Value) (l3 : Option Value) (x0 : Int32) (s : List Value) (h : am_H), am_E P 125 31 [l0, some (.int x0), l2, l3] s h = am_E P 125 32 [l0, some (.int x0), l2, l3] (.int x0 :: s) h) ∧
  (∀ (P : Nat × Nat) (l0 : Option Value) (l1 : Option Value) (l2 : Option Value) (l3 : Option Value) (x0 : Int32) (x1 : Int32) (v0 : Value) (v1 : Value) (v2 : Value) (v3 : Value) (h : am_H), am_E P 125 32 [l0, l1, l2, l3] [.int x1, .int x0, v0, v1, v2, v3] h = (am_E P 112 0 [some (.int x0), some (.int x1)] [] h).bind (fun q => am_E P 125 35 [l0, l1, l2, l3] (q.1.toList ++ [v0, v1, v2, v3]) q.2)) ∧
  (∀ (P : Nat × Nat) (l0 : Option Value) (l1 : Option Value) (l2 : Option Value) (l3 : Option Value) (x0 : Int32) (a0 : Nat) (a1 : Nat) (h : am_H), am_E P 125 35 [l0, l1, l2, l3] [.int x0, .int 0, .ref a1, .int 0, .ref a0] h = (am_copy h a0 a1 x0).bind (fun h => am_E P 125 38 [l0, l1, l2, l3] [] h)) ∧
  (∀ (P : Nat × Nat) (l0 : Option Value) (l1 : Option Value) (l2 : Option Value) (a0 : Nat) (s : List Value) (h : am_H), am_E P 125 38 [l0, l1, l2, some (.ref a0)] s h = am_E P 125 39 [l0, l1, l2, some (.ref a0)] (.ref a0 :: s) h) ∧
  (∀ (P : Nat × Nat) (l0 : Option Value) (l1 : Option Value) (l2 : Option Value) (s : List Value) (h : am_H), am_E P 125 38 [l0, l1, l2, some .null] s h = am_E P 125 39 [l0, l1, l2, some .null] (.null :: s) h) ∧
  (∀ (P : Nat × Nat) (l0 : Option Value) (l1 : Option Value) (l2 : Option Value) (l3 : Option Value) (a0 : Nat) (h : am_H), am_E P 125 39 [l0, l1, l2, l3] [.ref a0] h = some (some (.ref a0), h)) ∧
  (∀ (P : Nat × Nat) (l0 : Option Value) (l1 : Option Value) (l2 : Option Value) (l3 : Option Value) (h : am_H), am_E P 125 39 [l0, l1, l2, l3] [.null] h = some (some .null, h)) :=
  ⟨fun _ _ _ _ _ _ _ => er_go rfl rfl,
  fun _ _ _ _ _ _ => er_go rfl rfl,
  fun _ _ _ _ _ _ _ => er_go rfl rfl,
  fun _ _ _ _ _ _ _ _ _ => er_ac_ne rfl,
  fun _ _ _ _ _ _ _ => er_go rfl rfl,
  fun _ _ _ _ _ _ _ _ => er_newa rfl rfl,
  fun _ _ _ _ _ _ _ => er_go rfl rfl,
  fun _ _ _ _ _ _ _ => er_go rfl rfl,
  fun _ _ _ _ _ _ => er_go rfl rfl,
  fun _ _ _ _ _ _ _ _ => er_go rfl rfl,
  fun _ _ _ _ _ _ _ => er_go rfl rfl,
  fun _ _ _ _ _ _ _ => er_go rfl rfl,
  fun _ _ _ _ _ _ => er_go rfl rfl,
  fun _ _ _ _ _ _ _ => er_go rfl rfl,
  fun _ _ _ _ _ _ _ => er_go rfl rfl,
  fun _ _ _ _ _ _ => er_go rfl rfl,
  fun _ _ _ _ _ _ _ => er_go rfl rfl,
  fun _ _ _ _ _ _ _ => er_go rfl rfl,
  fun _ _ _ _ _ _ => er_go rfl rfl,
  fun _ _ _ _ _ _ _ _ => er_alen rfl,
  fun _ _ _ _ _ _ _ => er_go rfl rfl,
  fun _ _ _ _ _ _ _ _ _ _ _ _ => er_callS rfl rfl rfl,
  fun _ _ _ _ _ _ _ _ _ => er_copy rfl rfl,
  fun _ _ _ _ _ _ _ => er_go rfl rfl,
  fun _ _ _ _ _ _ => er_go rfl rfl,
  fun _ _ _ _ _ _ _ => er_ret rfl rfl,
  fun _ _ _ _ _ _ => er_ret rfl rfl⟩
set_option maxRecDepth 100000 in
/-- java/util/Arrays.copyOf([II)[I -/
theorem r126 : (∀ (P : Nat × Nat) (l0 : Option Value) (l2 : Option Value) (x0 : Int32) (s : List Value) (h : am_H), am_E P 126 0 [l0, some (.int x0), l2] s h = am_E P 126 1 [l0, some (.int x0), l2] (.int x0 :: s) h) ∧
  (∀ (P : Nat × Nat) (l1 : Option Value) (l2 : Option Value) (a0 : Nat) (s : List Value) (h : am_H), am_E P 126 1 [some (.ref a0), l1, l2] s h = am_E P 126 2 [some (.ref a0), l1, l2] (.ref a0 :: s) h) ∧
  (∀ (P : Nat × Nat) (l1 : Option Value) (l2 : Option Value) (s : List Value) (h : am_H), am_E P 126 1 [some .null, l1, l2] s h = am_E P 126 2 [some .null, l1, l2] (.null :: s) h) ∧
  (∀ (P : Nat × Nat) (l0 : Option Value) (l1 : Option Value) (l2 : Option Value) (a0 : Nat) (s : List Value) (h : am_H), am_E P 126 2 [l0, l1, l2] (.ref a0 :: s) h = (am_alen h a0).bind (fun v => am_E P 126 3 [l0, l1, l2] (.int v :: s) h)) ∧
  (∀ (P : Nat × Nat) (l0 : Option Value) (l1 : Option Value) (l2 : Option Value) (x0 : Int32) (x1 : Int32) (s : List Value) (h : am_H), am_E P 126 3 [l0, l1, l2] (.int x1 :: .int x0 :: s) h = if x0 = x1 then am_E P 126 6 [l0, l1, l2] s h else am_E P 126 14 [l0, l1, l2] s h) ∧
  (∀ (P : Nat × Nat) (l1 : Option Value) (l2 : Option Value) (a0 : Nat) (s : List Value) (h : am_H), am_E P 126 6 [some (.ref a0), l1, l2] s h = am_E P 126 7 [some (.ref a0), l1, l2] (.ref a0 :: s) h) ∧
  (∀ (P : Nat × Nat) (l1 : Option Value) (l2 : Option Value) (s : List Value) (h : am_H), am_E P 126 6 [some .null, l1, l2] s h = am_E P 126 7 [some .null, l1, l2] (.null :: s) h) ∧
  (∀ (P : Nat × Nat) (l0 : Option Value) (l2 : Option Value) (x0 : Int32) (s : List Value) (h : am_H), am_E P 126 14 [l0, some (.int x0), l2] s h = am_E P 126 15 [l0, some (.int x0), l2] (.int x0 :: s) h) ∧
  (∀ (P : Nat × Nat) (l0 : Option Value) (l1 : Option Value) (l2 : Option Value) (x0 : Int32) (s : List Value) (h : am_H), am_E P 126 15 [l0, l1, l2] (.int x0 :: s) h = if x0.toInt < 0 ∨ 1000000 < x0.toInt then none else am_E P 126 17 [l0, l1, l2] (.ref h.1 :: s) (ah_new h x0.toNatClampNeg (ac_I x0.toNatClampNeg (fun _ => 0)))) ∧
  (∀ (P : Nat × Nat) (l0 : Option Value) (l1 : Option Value) (l2 : Option Value) (a0 : Nat) (s : List Value) (h : am_H), am_E P 126 17 [l0, l1, l2] (.ref a0 :: s) h = am_E P 126 18 [l0, l1, some (.ref a0)] s h) ∧
  (∀ (P : Nat × Nat) (l0 : Option Value) (l1 : Option Value) (l2 : Option Value) (s : List Value) (h : am_H), am_E P 126 17 [l0, l1, l2] (.null :: s) h = am_E P 126 18 [l0, l1, some .null] s h) ∧
  (∀ (P : Nat × Nat) (l1 : Option Value) (l2 : Option Value) (a0 : Nat) (s : List Value) (h : am_H), am_E P 126 18 [some (.ref a0), l1, l2] s h = am_E P 126 19 [some (.ref a0), l1, l2] (.ref a0 :: s) h) ∧
  (∀ (P : Nat × Nat) (l1 : Option Value) (l2 : Option Value) (s : List Value) (h : am_H), am_E P 126 18 [some .null, l1, l2] s h = am_E P 126 19 [some .null, l1, l2] (.null :: s) h) ∧
  (∀ (P : Nat × Nat) (l0 : Option Value) (l1 : Option Value) (l2 : Option Value) (s : List Value) (h : am_H), am_E P 126 19 [l0, l1, l2] s h = am_E P 126 20 [l0, l1, l2] (.int 0 :: s) h) ∧
  (∀ (P : Nat × Nat) (l0 : Option Value) (l1 : Option Value) (a0 : Nat) (s : List Value) (h : am_H), am_E P 126 20 [l0, l1, some (.ref a0)] s h = am_E P 126 21 [l0, l1, some (.ref a0)] (.ref a0 :: s) h) ∧
  (∀ (P : Nat × Nat) (l0 : Option Value) (l1 : Option Value) (s : List Value) (h : am_H), am_E P 126 20 [l0, l1, some .null] s h = am_E P 126 21 [l0, l1, some .null] (.null :: s) h) ∧
  (∀ (P : Nat × Nat) (l0 : Option Value) (l1 : Option Value) (l2 : Option Value) (s : List Value) (h : am_H), am_E P 126 21 [l0, l1, l2] s h = am_E P 126 22 [l0, l1, l2] (.int 0 :: s) h) ∧
  (∀ (P : Nat × Nat) (l1 : Option Value) (l2 : Option Value) (a0 : Nat) (s : List Value) (h : am_H), am_E P 126 22 [some (.ref a0), l1, l2] s h = am_E P 126 23 [some (.ref a0), l1, l2] (.ref a0 :: s) h) ∧
  (∀ (P : Nat × Nat) (l1 : Option Value) (l2 : Option Value) (s : List Value) (h : am_H), am_E P 126 22 [some .null, l1, l2] s h = am_E P 126 23 [some .null, l1, l2] (.null :: s) h) ∧
  (∀ (P : Nat × Nat) (l0 : Option Value) (l1 : Option Value) (l2 : Option Value) (a0 : Nat) (s : List Value) (h : am_H), am_E P 126 23 [l0, l1, l2] (.ref a0 :: s) h = (am_alen h a0).bind (fun v => am_E P 126 24 [l0, l1, l2] (.int v :: s) h)) ∧
  (∀ (P : Nat × Nat) (l0 : Option Value) (l2 : Option Value) (x0 : Int32) (s : List Value) (h : am_H), am_E P 126 24 [l0, some (.int x0), l2] s h = am_E P 126 25 [l0, some (.int x0), l2] (.int x0 :: s) h) ∧
  (∀ (P : Nat × Nat) (l0 : Option Value) (l1 : Option Value) (l2 : Option Value) (x0 : Int32) (x1 : Int32) (v0 : Value) (v1 : Value) (v2 : Value) (v3 : Value) (h : am_H), am_E P 126 25 [l0, l1, l2] [.int x1, .int x0, v0, v1, v2, v3] h = (am_E P 112 0 [some (.int x0), some (.int x1)] [] h).bind (fun q => am_E P 126 28 [l0, l1, l2] (q.1.toList ++ [v0, v1, v2, v3]) q.2)) ∧
  (∀ (P : Nat × Nat) (l0 : Option Value) (l1 : Option Value) (l2 : Option Value) (x0 : Int32) (a0 : Nat) (a1 : Nat) (h : am_H), am_E P 126 28 [l0, l1, l2] [.int x0, .int 0, .ref a1, .int 0, .ref a0] h = (am_copy h a0 a1 x0).bind (fun h => am_E P 126 31 [l0, l1, l2] [] h)) ∧
  (∀ (P : Nat × Nat) (l0 : Option Value) (l1 : Option Value) (a0 : Nat) (s : List Value) (h : am_H), am_E P 126 31 [l0, l1, some (.ref a0)] s h = am_E P 126 32 [l0, l1, some (.ref a0)] (.ref a0 :: s) h) ∧
  (∀ (P : Nat × Nat) (l0 : Option Value) (l1 : Option Value) (s : List Value) (h : am_H), am_E P 126 31 [l0, l1, some .null] s h = am_E P 126 32 [l0, l1, some .null] (.null :: s) h) ∧
  (∀ (P : Nat × Nat) (l0 : Option Value) (l1 : Option Value) (l2 : Option Value) (a0 : Nat) (h : am_H), am_E P 126 32 [l0, l1, l2] [.ref a0] h = some (some (.ref a0), h)) ∧
  (∀ (P : Nat × Nat) (l0 : Option Value) (l1 : Option Value) (l2 : Option Value) (h : am_H), am_E P 126 32 [l0, l1, l2] [.null] h = some (some .null, h)) :=
  ⟨fun _ _ _ _ _ _ => er_go rfl rfl,
  fun _ _ _ _ _ _ => er_go rfl rfl,
  fun _ _ _ _ _ => er_go rfl rfl,
  fun _ _ _ _ _ _ _ => er_alen rfl,
  fun _ _ _ _ _ _ _ _ => er_ic_ne rfl,
  fun _ _ _ _ _ _ => er_go rfl rfl,
  fun _ _ _ _ _ => er_go rfl rfl,
  fun _ _ _ _ _ _ => er_go rfl rfl,
  fun _ _ _ _ _ _ _ => er_newa rfl rfl,
  fun _ _ _ _ _ _ _ => er_go rfl rfl,
  fun _ _ _ _ _ _ => er_go rfl rfl,
  fun _ _ _ _ _ _ => er_go rfl rfl,
  fun _ _ _ _ _ => er_go rfl rfl,
  fun _ _ _ _ _ _ => er_go rfl rfl,
  fun _ _ _ _ _ _ => er_go rfl rfl,
  fun _ _ _ _ _ => er_go rfl rfl,
  fun _ _ _ _ _ _ => er_go rfl rfl,
  fun _ _ _ _ _ _ => er_go rfl rfl,
  fun _ _ _ _ _ => er_go rfl rfl,
  fun _ _ _ _ _ _ _ => er_alen rfl,
  fun _ _ _ _ _ _ => er_go rfl rfl,
  fun _ _ _ _ _ _ _ _ _ _ _ => er_callS rfl rfl rfl,
  fun _ _ _ _ _ _ _ _ => er_copy rfl rfl,
  fun _ _ _ _ _ _ => er_go rfl rfl,
  fun _ _ _ _ _ => er_go rfl rfl,
  fun _ _ _ _ _ _ => er_ret rfl rfl,
  fun _ _ _ _ _ => er_ret rfl rfl⟩
set_option maxRecDepth 100000 in
/-- java/util/Objects.checkIndex(II)I -/
theorem r127 : (∀ (P : Nat × Nat) (l1 : Option Value) (x0 : Int32) (s : List Value) (h : am_H), am_E P 127 0 [some (.int x0), l1] s h = am_E P 127 1 [some (.int x0), l1] (.int x0 :: s) h) ∧
  (∀ (P : Nat × Nat) (l0 : Option Value) (x0 : Int32) (s : List Value) (h : am_H), am_E P 127 1 [l0, some (.int x0)] s h = am_E P 127 2 [l0, some (.int x0)] (.int x0 :: s) h) ∧
  (∀ (P : Nat × Nat) (l0 : Option Value) (l1 : Option Value) (s : List Value) (h : am_H), am_E P 127 2 [l0, l1] s h = am_E P 127 3 [l0, l1] (.null :: s) h) ∧
  (∀ (P : Nat × Nat) (l0 : Option Value) (l1 : Option Value) (x0 : Int32) (x1 : Int32) (h : am_H), am_E P 127 3 [l0, l1] [.null, .int x1, .int x0] h = (am_E P 129 0 [some (.int x0), some (.int x1), some (.null)] [] h).bind (fun q => am_E P 127 6 [l0, l1] (q.1.toList ++ []) q.2)) ∧
  (∀ (P : Nat × Nat) (l0 : Option Value) (l1 : Option Value) (x0 : Int32) (h : am_H), am_E P 127 6 [l0, l1] [.int x0] h = some (some (.int x0), h)) :=
  ⟨fun _ _ _ _ _ => er_go rfl rfl,
  fun _ _ _ _ _ => er_go rfl rfl,
  fun _ _ _ _ _ => er_go rfl rfl,
  fun _ _ _ _ _ _ => er_callS rfl rfl rfl,
  fun _ _ _ _ _ => er_ret rfl rfl⟩
set_option maxRecDepth 100000 in
/-- jdk/internal/util/ArraysSupport.newLength(III)I -/
theorem r128 : (∀ (P : Nat × Nat) (l1 : Option Value) (l2 : Option Value) (l3 : Option Value) (x0 : Int32) (s : List Value) (h : am_H), am_E P 128 0 [some (.int x0), l1, l2, l3] s h = am_E P 128 1 [some (.int x0), l1, l2, l3] (.int x0 :: s) h) ∧
  (∀ (P : Nat × Nat) (l0 : Option Value) (l2 : Option Value) (l3 : Option Value) (x0 : Int32) (s : List Value) (h : am_H), am_E P 128 1 [l0, some (.int x0), l2, l3] s h = am_E P 128 2 [l0, some (.int x0), l2, l3] (.int x0 :: s) h) ∧
  (∀ (P : Nat × Nat) (l0 : Option Value) (l1 : Option Value) (l3 : Option Value) (x0 : Int32) (s : List Value) (h : am_H), am_E P 128 2 [l0, l1, some (.int x0), l3] s h = am_E P 128 3 [l0, l1, some (.int x0), l3] (.int x0 :: s) h) ∧
  (∀ (P : Nat × Nat) (l0 : Option Value) (l1 : Option Value) (l2 : Option Value) (l3 : Option Value) (x0 : Int32) (x1 : Int32) (v0 : Value) (h : am_H), am_E P 128 3 [l0, l1, l2, l3] [.int x1, .int x0, v0] h = (am_E P 111 0 [some (.int x0), some (.int x1)] [] h).bind (fun q => am_E P 128 6 [l0, l1, l2, l3] (q.1.toList ++ [v0]) q.2)) ∧
  (∀ (P : Nat × Nat) (l0 : Option Value) (l1 : Option Value) (l2 : Option Value) (l3 : Option Value) (x0 : Int32) (x1 : Int32) (s : List Value) (h : am_H), am_E P 128 6 [l0, l1, l2, l3] (.int x1 :: .int x0 :: s) h = am_E P 128 7 [l0, l1, l2, l3] (.int (x0 + x1) :: s) h) ∧
  (∀ (P : Nat × Nat) (l0 : Option Value) (l1 : Option Value) (l2 : Option Value) (l3 : Option Value) (x0 : Int32) (s : List Value) (h : am_H), am_E P 128 7 [l0, l1, l2, l3] (.int x0 :: s) h = am_E P 128 8 [l0, l1, l2, some (.int x0)] s h) ∧
  (∀ (P : Nat × Nat) (l0 : Option Value) (l1 : Option Value) (l2 : Option Value) (l3 : Option Value) (s : List Value) (h : am_H), am_E P 128 8 [l0, l1, l2, l3] s h = am_E P 128 9 [l0, l1, l2, l3] (.int 0 :: s) h) ∧
  (∀ (P : Nat × Nat) (l0 : Option Value) (l1 : Option Value) (l2 : Option Value) (x0 : Int32) (s : List Value) (h : am_H), am_E P 128 9 [l0, l1, l2, some (.int x0)] s h = am_E P 128 10 [l0, l1, l2, some (.int x0)] (.int x0 :: s) h) ∧
  (∀ (P : Nat × Nat) (l0 : Option Value) (l1 : Option Value) (l2 : Option Value) (l3 : Option Value) (x0 : Int32) (x1 : Int32) (s : List Value) (h : am_H), am_E P 128 10 [l0, l1, l2, l3] (.int x1 :: .int x0 :: s) h = if x1 ≤ x0 then am_E P 128 21 [l0, l1, l2, l3] s h else am_E P 128 13 [l0, l1, l2, l3] s h) ∧
  (∀ (P : Nat × Nat) (l0 : Option Value) (l1 : Option Value) (l2 : Option Value) (x0 : Int32) (s : List Value) (h : am_H), am_E P 128 13 [l0, l1, l2, some (.int x0)] s h = am_E P 128 14 [l0, l1, l2, some (.int x0)] (.int x0 :: s) h) ∧
  (∀ (P : Nat × Nat) (l0 : Option Value) (l1 : Option Value) (l2 : Option Value) (l3 : Option Value) (s : List Value) (h : am_H), am_E P 128 14 [l0, l1, l2, l3] s h = am_E P 128 16 [l0, l1, l2, l3] (.int 2147483639 :: s) h) ∧
  (∀ (P : Nat × Nat) (l0 : Option Value) (l1 : Option Value) (l2 : Option Value) (l3 : Option Value) (x0 : Int32) (x1 : Int32) (s : List Value) (h : am_H), am_E P 128 16 [l0, l1, l2, l3] (.int x1 :: .int x0 :: s) h = if x1 < x0 then am_E P 128 21 [l0, l1, l2, l3] s h else am_E P 128 19 [l0, l1, l2, l3] s h) ∧
  (∀ (P : Nat × Nat) (l0 : Option Value) (l1 : Option Value) (l2 : Option Value) (x0 : Int32) (s : List Value) (h : am_H), am_E P 128 19 [l0, l1, l2, some (.int x0)] s h = am_E P 128 20 [l0, l1, l2, some (.int x0)] (.int x0 :: s) h) ∧
  (∀ (P : Nat × Nat) (l0 : Option Value) (l1 : Option Value) (l2 : Option Value) (l3 : Option Value) (x0 : Int32) (h : am_H), am_E P 128 20 [l0, l1, l2, l3] [.int x0] h = some (some (.int x0), h)) ∧
  (∀ (P : Nat × Nat) (l1 : Option Value) (l2 : Option Value) (l3 : Option Value) (x0 : Int32) (s : List Value) (h : am_H), am_E P 128 21 [some (.int x0), l1, l2, l3] s h = am_E P 128 22 [some (.int x0), l1, l2, l3] (.int x0 :: s) h) ∧
  (∀ (P : Nat × Nat) (l0 : Option Value) (l2 : Option Value) (l3 : Option Value) (x0 : Int32) (s : List Value) (h : am_H), am_E P 128 22 [l0, some (.int x0), l2, l3] s h = am_E P 128 23 [l0, some (.int x0), l2, l3] (.int x0 :: s) h) :=
  ⟨fun _ _ _ _ _ _ _ => er_go rfl rfl,
  fun _ _ _ _ _ _ _ => er_go rfl rfl,
  fun _ _ _ _ _ _ _ => er_go rfl rfl,
  fun _ _ _ _ _ _ _ _ _ => er_callS rfl rfl rfl,
  fun _ _ _ _ _ _ _ _ _ => er_go rfl rfl,
  fun _ _ _ _ _ _ _ _ => er_go rfl rfl,
  fun _ _ _ _ _ _ _ => er_go rfl rfl,
  fun _ _ _ _ _ _ _ => er_go rfl rfl,
  fun _ _ _ _ _ _ _ _ _ => er_ic_ge rfl,
  fun _ _ _ _ _ _ _ => er_go rfl rfl,
  fun _ _ _ _ _ _ _ => er_go rfl rfl,
  fun _ _ _ _ _ _ _ _ _ => er_ic_gt rfl,
  fun _ _ _ _ _ _ _ => er_go rfl rfl,
  fun _ _ _ _ _ _ _ => er_ret rfl rfl,
  fun _ _ _ _ _ _ _ => er_go rfl rfl,
  fun _ _ _ _ _ _ _ => er_go rfl rfl⟩
set_option maxRecDepth 100000 in
/-- jdk/internal/util/Preconditions.checkIndex(IILjava/util/function/BiFunction;)I -/
theorem r129 : (∀ (P : Nat × Nat) (l1 : Option Value) (l2 : Option Value) (x0 : Int32) (s : List Value) (h : am_H), am_E P 129 0 [some (.int x0), l1, l2] s h = am_E P 129 1 [some (.int x0), l1, l2] (.int x0 :: s) h) ∧
  (∀ (P : Nat × Nat) (l0 : Option Value) (l1 : Option Value) (l2 : Option Value) (x0 : Int32) (s : List Value) (h : am_H), am_E P 129 1 [l0, l1, l2] (.int x0 :: s) h = if x0 < 0 then am_E P 129 9 [l0, l1, l2] s h else am_E P 129 4 [l0, l1, l2] s h) ∧
  (∀ (P : Nat × Nat) (l1 : Option Value) (l2 : Option Value) (x0 : Int32) (s : List Value) (h : am_H), am_E P 129 4 [some (.int x0), l1, l2] s h = am_E P 129 5 [some (.int x0), l1, l2] (.int x0 :: s) h) ∧
  (∀ (P : Nat × Nat) (l0 : Option Value) (l2 : Option Value) (x0 : Int32) (s : List Value) (h : am_H), am_E P 129 5 [l0, some (.int x0), l2] s h = am_E P 129 6 [l0, some (.int x0), l2] (.int x0 :: s) h) ∧
  (∀ (P : Nat × Nat) (l0 : Option Value) (l1 : Option Value) (l2 : Option Value) (x0 : Int32) (x1 : Int32) (s : List Value) (h : am_H), am_E P 129 6 [l0, l1, l2] (.int x1 :: .int x0 :: s) h = if x0 < x1 then am_E P 129 16 [l0, l1, l2] s h else am_E P 129 9 [l0, l1, l2] s h) ∧
  (∀ (P : Nat × Nat) (l0 : Option Value) (l1 : Option Value) (a0 : Nat) (s : List Value) (h : am_H), am_E P 129 9 [l0, l1, some (.ref a0)] s h = am_E P 129 10 [l0, l1, some (.ref a0)] (.ref a0 :: s) h) ∧
  (∀ (P : Nat × Nat) (l0 : Option Value) (l1 : Option Value) (s : List Value) (h : am_H), am_E P 129 9 [l0, l1, some .null] s h = am_E P 129 10 [l0, l1, some .null] (.null :: s) h) ∧
  (∀ (P : Nat × Nat) (l1 : Option Value) (l2 : Option Value) (x0 : Int32) (s : List Value) (h : am_H), am_E P 129 10 [some (.int x0), l1, l2] s h = am_E P 129 11 [some (.int x0), l1, l2] (.int x0 :: s) h) ∧
  (∀ (P : Nat × Nat) (l0 : Option Value) (l2 : Option Value) (x0 : Int32) (s : List Value) (h : am_H), am_E P 129 11 [l0, some (.int x0), l2] s h = am_E P 129 12 [l0, some (.int x0), l2] (.int x0 :: s) h) ∧
  (∀ (P : Nat × Nat) (l1 : Option Value) (l2 : Option Value) (x0 : Int32) (s : List Value) (h : am_H), am_E P 129 16 [some (.int x0), l1, l2] s h = am_E P 129 17 [some (.int x0), l1, l2] (.int x0 :: s) h) ∧
  (∀ (P : Nat × Nat) (l0 : Option Value) (l1 : Option Value) (l2 : Option Value) (x0 : Int32) (h : am_H), am_E P 129 17 [l0, l1, l2] [.int x0] h = some (some (.int x0), h)) :=
  ⟨fun _ _ _ _ _ _ => er_go rfl rfl,
  fun _ _ _ _ _ _ _ => er_if_lt rfl,
  fun _ _ _ _ _ _ => er_go rfl rfl,
  fun _ _ _ _ _ _ => er_go rfl rfl,
  fun _ _ _ _ _ _ _ _ => er_ic_lt rfl,
  fun _ _ _ _ _ _ => er_go rfl rfl,
  fun _ _ _ _ _ => er_go rfl rfl,
  fun _ _ _ _ _ _ => er_go rfl rfl,
  fun _ _ _ _ _ _ => er_go rfl rfl,
  fun _ _ _ _ _ _ => er_go rfl rfl,
  fun _ _ _ _ _ _ => er_ret rfl rfl⟩
