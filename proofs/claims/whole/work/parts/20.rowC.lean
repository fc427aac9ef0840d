/-! Printed by a program of ours (wip/whole/gen/emit_rows.py): what am_E does at each instruction. -/
set_option maxRecDepth 100000 in
/-- TwoStepOutputsModel.<init>()V -/
theorem r71 : (∀ (P : Nat × Nat) (l1 : Option Value) (a0 : Nat) (s : List Value) (h : am_H), am_E P 71 0 [some (.ref a0), l1] s h = am_E P 71 1 [some (.ref a0), l1] (.ref a0 :: s) h) ∧
  (∀ (P : Nat × Nat) (l1 : Option Value) (s : List Value) (h : am_H), am_E P 71 0 [some .null, l1] s h = am_E P 71 1 [some .null, l1] (.null :: s) h) ∧
  (∀ (P : Nat × Nat) (l0 : Option Value) (l1 : Option Value) (a0 : Nat) (h : am_H), am_E P 71 1 [l0, l1] [.ref a0] h = am_E P 71 4 [l0, l1] [] h) ∧
  (∀ (P : Nat × Nat) (l1 : Option Value) (a0 : Nat) (s : List Value) (h : am_H), am_E P 71 4 [some (.ref a0), l1] s h = am_E P 71 5 [some (.ref a0), l1] (.ref a0 :: s) h) ∧
  (∀ (P : Nat × Nat) (l1 : Option Value) (s : List Value) (h : am_H), am_E P 71 4 [some .null, l1] s h = am_E P 71 5 [some .null, l1] (.null :: s) h) ∧
  (∀ (P : Nat × Nat) (l0 : Option Value) (l1 : Option Value) (s : List Value) (h : am_H), am_E P 71 5 [l0, l1] s h = am_E P 71 6 [l0, l1] (.int 3 :: s) h) ∧
  (∀ (P : Nat × Nat) (l0 : Option Value) (l1 : Option Value) (x0 : Int32) (s : List Value) (h : am_H), am_E P 71 6 [l0, l1] (.int x0 :: s) h = if x0.toInt < 0 ∨ 1000000 < x0.toInt then none else am_E P 71 8 [l0, l1] (.ref h.1 :: s) (ah_new h x0.toNatClampNeg (ac_I x0.toNatClampNeg (fun _ => 0)))) ∧
  (∀ (P : Nat × Nat) (l0 : Option Value) (l1 : Option Value) (a0 : Nat) (a1 : Nat) (s : List Value) (h : am_H), am_E P 71 8 [l0, l1] (.ref a1 :: .ref a0 :: s) h = (am_p1 h a0 9 1 (.ref a1)).bind (fun h => am_E P 71 11 [l0, l1] s h)) ∧
  (∀ (P : Nat × Nat) (l1 : Option Value) (a0 : Nat) (s : List Value) (h : am_H), am_E P 71 11 [some (.ref a0), l1] s h = am_E P 71 12 [some (.ref a0), l1] (.ref a0 :: s) h) ∧
  (∀ (P : Nat × Nat) (l1 : Option Value) (s : List Value) (h : am_H), am_E P 71 11 [some .null, l1] s h = am_E P 71 12 [some .null, l1] (.null :: s) h) ∧
  (∀ (P : Nat × Nat) (l0 : Option Value) (l1 : Option Value) (s : List Value) (h : am_H), am_E P 71 12 [l0, l1] s h = am_E P 71 13 [l0, l1] (.int 3 :: s) h) ∧
  (∀ (P : Nat × Nat) (l0 : Option Value) (l1 : Option Value) (x0 : Int32) (s : List Value) (h : am_H), am_E P 71 13 [l0, l1] (.int x0 :: s) h = if x0.toInt < 0 ∨ 1000000 < x0.toInt then none else am_E P 71 15 [l0, l1] (.ref h.1 :: s) (ah_new h x0.toNatClampNeg (ac_I x0.toNatClampNeg (fun _ => 0)))) ∧
  (∀ (P : Nat × Nat) (l0 : Option Value) (l1 : Option Value) (a0 : Nat) (a1 : Nat) (s : List Value) (h : am_H), am_E P 71 15 [l0, l1] (.ref a1 :: .ref a0 :: s) h = (am_p1 h a0 9 2 (.ref a1)).bind (fun h => am_E P 71 18 [l0, l1] s h)) ∧
  (∀ (P : Nat × Nat) (l1 : Option Value) (a0 : Nat) (s : List Value) (h : am_H), am_E P 71 18 [some (.ref a0), l1] s h = am_E P 71 19 [some (.ref a0), l1] (.ref a0 :: s) h) ∧
  (∀ (P : Nat × Nat) (l1 : Option Value) (s : List Value) (h : am_H), am_E P 71 18 [some .null, l1] s h = am_E P 71 19 [some .null, l1] (.null :: s) h) ∧
  (∀ (P : Nat × Nat) (l0 : Option Value) (l1 : Option Value) (s : List Value) (h : am_H), am_E P 71 19 [l0, l1] s h = am_E P 71 21 [l0, l1] (.int 60 :: s) h) ∧
  (∀ (P : Nat × Nat) (l0 : Option Value) (l1 : Option Value) (x0 : Int32) (s : List Value) (h : am_H), am_E P 71 21 [l0, l1] (.int x0 :: s) h = if x0.toInt < 0 ∨ 1000000 < x0.toInt then none else am_E P 71 23 [l0, l1] (.ref h.1 :: s) (ah_new h x0.toNatClampNeg (ac_I x0.toNatClampNeg (fun _ => 0)))) ∧
  (∀ (P : Nat × Nat) (l0 : Option Value) (l1 : Option Value) (a0 : Nat) (a1 : Nat) (s : List Value) (h : am_H), am_E P 71 23 [l0, l1] (.ref a1 :: .ref a0 :: s) h = (am_p1 h a0 9 3 (.ref a1)).bind (fun h => am_E P 71 26 [l0, l1] s h)) ∧
  (∀ (P : Nat × Nat) (l1 : Option Value) (a0 : Nat) (s : List Value) (h : am_H), am_E P 71 26 [some (.ref a0), l1] s h = am_E P 71 27 [some (.ref a0), l1] (.ref a0 :: s) h) ∧
  (∀ (P : Nat × Nat) (l1 : Option Value) (s : List Value) (h : am_H), am_E P 71 26 [some .null, l1] s h = am_E P 71 27 [some .null, l1] (.null :: s) h) ∧
  (∀ (P : Nat × Nat) (l0 : Option Value) (l1 : Option Value) (s : List Value) (h : am_H), am_E P 71 27 [l0, l1] s h = am_E P 71 29 [l0, l1] (.int 60 :: s) h) ∧
  (∀ (P : Nat × Nat) (l0 : Option Value) (l1 : Option Value) (x0 : Int32) (s : List Value) (h : am_H), am_E P 71 29 [l0, l1] (.int x0 :: s) h = if x0.toInt < 0 ∨ 1000000 < x0.toInt then none else am_E P 71 31 [l0, l1] (.ref h.1 :: s) (ah_new h x0.toNatClampNeg (ac_I x0.toNatClampNeg (fun _ => 0)))) ∧
  (∀ (P : Nat × Nat) (l0 : Option Value) (l1 : Option Value) (a0 : Nat) (a1 : Nat) (s : List Value) (h : am_H), am_E P 71 31 [l0, l1] (.ref a1 :: .ref a0 :: s) h = (am_p1 h a0 9 4 (.ref a1)).bind (fun h => am_E P 71 34 [l0, l1] s h)) ∧
  (∀ (P : Nat × Nat) (l1 : Option Value) (a0 : Nat) (s : List Value) (h : am_H), am_E P 71 34 [some (.ref a0), l1] s h = am_E P 71 35 [some (.ref a0), l1] (.ref a0 :: s) h) ∧
  (∀ (P : Nat × Nat) (l1 : Option Value) (s : List Value) (h : am_H), am_E P 71 34 [some .null, l1] s h = am_E P 71 35 [some .null, l1] (.null :: s) h) ∧
  (∀ (P : Nat × Nat) (l0 : Option Value) (l1 : Option Value) (s : List Value) (h : am_H), am_E P 71 35 [l0, l1] s h = am_E P 71 36 [l0, l1] (.int 3 :: s) h) ∧
  (∀ (P : Nat × Nat) (l0 : Option Value) (l1 : Option Value) (x0 : Int32) (s : List Value) (h : am_H), am_E P 71 36 [l0, l1] (.int x0 :: s) h = if x0.toInt < 0 ∨ 1000000 < x0.toInt then none else am_E P 71 38 [l0, l1] (.ref h.1 :: s) (ah_new h x0.toNatClampNeg (ac_I x0.toNatClampNeg (fun _ => 0)))) ∧
  (∀ (P : Nat × Nat) (l0 : Option Value) (l1 : Option Value) (a0 : Nat) (a1 : Nat) (s : List Value) (h : am_H), am_E P 71 38 [l0, l1] (.ref a1 :: .ref a0 :: s) h = (am_p1 h a0 9 5 (.ref a1)).bind (fun h => am_E P 71 41 [l0, l1] s h)) ∧
  (∀ (P : Nat × Nat) (l1 : Option Value) (a0 : Nat) (s : List Value) (h : am_H), am_E P 71 41 [some (.ref a0), l1] s h = am_E P 71 42 [some (.ref a0), l1] (.ref a0 :: s) h) ∧
  (∀ (P : Nat × Nat) (l1 : Option Value) (s : List Value) (h : am_H), am_E P 71 41 [some .null, l1] s h = am_E P 71 42 [some .null, l1] (.null :: s) h) ∧
  (∀ (P : Nat × Nat) (l0 : Option Value) (l1 : Option Value) (s : List Value) (h : am_H), am_E P 71 42 [l0, l1] s h = am_E P 71 43 [l0, l1] (.int 3 :: s) h) ∧
  (∀ (P : Nat × Nat) (l0 : Option Value) (l1 : Option Value) (x0 : Int32) (s : List Value) (h : am_H), am_E P 71 43 [l0, l1] (.int x0 :: s) h = if x0.toInt < 0 ∨ 1000000 < x0.toInt then none else am_E P 71 45 [l0, l1] (.ref h.1 :: s) (ah_new h x0.toNatClampNeg (ac_I x0.toNatClampNeg (fun _ => 0)))) ∧
  (∀ (P : Nat × Nat) (l0 : Option Value) (l1 : Option Value) (a0 : Nat) (a1 : Nat) (s : List Value) (h : am_H), am_E P 71 45 [l0, l1] (.ref a1 :: .ref a0 :: s) h = (am_p1 h a0 9 6 (.ref a1)).bind (fun h => am_E P 71 48 [l0, l1] s h)) ∧
  (∀ (P : Nat × Nat) (l1 : Option Value) (a0 : Nat) (s : List Value) (h : am_H), am_E P 71 48 [some (.ref a0), l1] s h = am_E P 71 49 [some (.ref a0), l1] (.ref a0 :: s) h) ∧
  (∀ (P : Nat × Nat) (l1 : Option Value) (s : List Value) (h : am_H), am_E P 71 48 [some .null, l1] s h = am_E P 71 49 [some .null, l1] (.null :: s) h) ∧
  (∀ (P : Nat × Nat) (l0 : Option Value) (l1 : Option Value) (s : List Value) (h : am_H), am_E P 71 49 [l0, l1] s h = am_E P 71 50 [l0, l1] (.int 3 :: s) h) ∧
  (∀ (P : Nat × Nat) (l0 : Option Value) (l1 : Option Value) (x0 : Int32) (s : List Value) (h : am_H), am_E P 71 50 [l0, l1] (.int x0 :: s) h = if x0.toInt < 0 ∨ 1000000 < x0.toInt then none else am_E P 71 52 [l0, l1] (.ref h.1 :: s) (ah_new h x0.toNatClampNeg (ac_I x0.toNatClampNeg (fun _ => 0)))) ∧
  (∀ (P : Nat × Nat) (l0 : Option Value) (l1 : Option Value) (a0 : Nat) (a1 : Nat) (s : List Value) (h : am_H), am_E P 71 52 [l0, l1] (.ref a1 :: .ref a0 :: s) h = (am_p1 h a0 9 7 (.ref a1)).bind (fun h => am_E P 71 55 [l0, l1] s h)) ∧
  (∀ (P : Nat × Nat) (l1 : Option Value) (a0 : Nat) (s : List Value) (h : am_H), am_E P 71 55 [some (.ref a0), l1] s h = am_E P 71 56 [some (.ref a0), l1] (.ref a0 :: s) h) ∧
  (∀ (P : Nat × Nat) (l1 : Option Value) (s : List Value) (h : am_H), am_E P 71 55 [some .null, l1] s h = am_E P 71 56 [some .null, l1] (.null :: s) h) ∧
  (∀ (P : Nat × Nat) (l0 : Option Value) (l1 : Option Value) (s : List Value) (h : am_H), am_E P 71 56 [l0, l1] s h = am_E P 71 59 [l0, l1] (.int 4000 :: s) h) ∧
  (∀ (P : Nat × Nat) (l0 : Option Value) (l1 : Option Value) (x0 : Int32) (s : List Value) (h : am_H), am_E P 71 59 [l0, l1] (.int x0 :: s) h = if x0.toInt < 0 ∨ 1000000 < x0.toInt then none else am_E P 71 61 [l0, l1] (.ref h.1 :: s) (ah_new h x0.toNatClampNeg (ac_I x0.toNatClampNeg (fun _ => 0)))) ∧
  (∀ (P : Nat × Nat) (l0 : Option Value) (l1 : Option Value) (a0 : Nat) (a1 : Nat) (s : List Value) (h : am_H), am_E P 71 61 [l0, l1] (.ref a1 :: .ref a0 :: s) h = (am_p1 h a0 9 9 (.ref a1)).bind (fun h => am_E P 71 64 [l0, l1] s h)) ∧
  (∀ (P : Nat × Nat) (l1 : Option Value) (a0 : Nat) (s : List Value) (h : am_H), am_E P 71 64 [some (.ref a0), l1] s h = am_E P 71 65 [some (.ref a0), l1] (.ref a0 :: s) h) ∧
  (∀ (P : Nat × Nat) (l1 : Option Value) (s : List Value) (h : am_H), am_E P 71 64 [some .null, l1] s h = am_E P 71 65 [some .null, l1] (.null :: s) h) ∧
  (∀ (P : Nat × Nat) (l0 : Option Value) (l1 : Option Value) (s : List Value) (h : am_H), am_E P 71 65 [l0, l1] s h = am_E P 71 68 [l0, l1] (.int 4000 :: s) h) ∧
  (∀ (P : Nat × Nat) (l0 : Option Value) (l1 : Option Value) (x0 : Int32) (s : List Value) (h : am_H), am_E P 71 68 [l0, l1] (.int x0 :: s) h = if x0.toInt < 0 ∨ 1000000 < x0.toInt then none else am_E P 71 70 [l0, l1] (.ref h.1 :: s) (ah_new h x0.toNatClampNeg (ac_I x0.toNatClampNeg (fun _ => 0)))) ∧
  (∀ (P : Nat × Nat) (l0 : Option Value) (l1 : Option Value) (a0 : Nat) (a1 : Nat) (s : List Value) (h : am_H), am_E P 71 70 [l0, l1] (.ref a1 :: .ref a0 :: s) h = (am_p1 h a0 9 10 (.ref a1)).bind (fun h => am_E P 71 73 [l0, l1] s h)) ∧
  (∀ (P : Nat × Nat) (l1 : Option Value) (a0 : Nat) (s : List Value) (h : am_H), am_E P 71 73 [some (.ref a0), l1] s h = am_E P 71 74 [some (.ref a0), l1] (.ref a0 :: s) h) ∧
  (∀ (P : Nat × Nat) (l1 : Option Value) (s : List Value) (h : am_H), am_E P 71 73 [some .null, l1] s h = am_E P 71 74 [some .null, l1] (.null :: s) h) ∧
  (∀ (P : Nat × Nat) (l0 : Option Value) (l1 : Option Value) (s : List Value) (h : am_H), am_E P 71 74 [l0, l1] s h = am_E P 71 77 [l0, l1] (.int 4000 :: s) h) ∧
  (∀ (P : Nat × Nat) (l0 : Option Value) (l1 : Option Value) (x0 : Int32) (s : List Value) (h : am_H), am_E P 71 77 [l0, l1] (.int x0 :: s) h = if x0.toInt < 0 ∨ 1000000 < x0.toInt then none else am_E P 71 79 [l0, l1] (.ref h.1 :: s) (ah_new h x0.toNatClampNeg (ac_I x0.toNatClampNeg (fun _ => 0)))) ∧
  (∀ (P : Nat × Nat) (l0 : Option Value) (l1 : Option Value) (a0 : Nat) (a1 : Nat) (s : List Value) (h : am_H), am_E P 71 79 [l0, l1] (.ref a1 :: .ref a0 :: s) h = (am_p1 h a0 9 11 (.ref a1)).bind (fun h => am_E P 71 82 [l0, l1] s h)) ∧
  (∀ (P : Nat × Nat) (l1 : Option Value) (a0 : Nat) (s : List Value) (h : am_H), am_E P 71 82 [some (.ref a0), l1] s h = am_E P 71 83 [some (.ref a0), l1] (.ref a0 :: s) h) ∧
  (∀ (P : Nat × Nat) (l1 : Option Value) (s : List Value) (h : am_H), am_E P 71 82 [some .null, l1] s h = am_E P 71 83 [some .null, l1] (.null :: s) h) ∧
  (∀ (P : Nat × Nat) (l0 : Option Value) (l1 : Option Value) (s : List Value) (h : am_H), am_E P 71 83 [l0, l1] s h = am_E P 71 86 [l0, l1] (.int 4000 :: s) h) ∧
  (∀ (P : Nat × Nat) (l0 : Option Value) (l1 : Option Value) (x0 : Int32) (s : List Value) (h : am_H), am_E P 71 86 [l0, l1] (.int x0 :: s) h = if x0.toInt < 0 ∨ 1000000 < x0.toInt then none else am_E P 71 88 [l0, l1] (.ref h.1 :: s) (ah_new h x0.toNatClampNeg (ac_I x0.toNatClampNeg (fun _ => 0)))) ∧
  (∀ (P : Nat × Nat) (l0 : Option Value) (l1 : Option Value) (a0 : Nat) (a1 : Nat) (s : List Value) (h : am_H), am_E P 71 88 [l0, l1] (.ref a1 :: .ref a0 :: s) h = (am_p1 h a0 9 12 (.ref a1)).bind (fun h => am_E P 71 91 [l0, l1] s h)) ∧
  (∀ (P : Nat × Nat) (l1 : Option Value) (a0 : Nat) (s : List Value) (h : am_H), am_E P 71 91 [some (.ref a0), l1] s h = am_E P 71 92 [some (.ref a0), l1] (.ref a0 :: s) h) ∧
  (∀ (P : Nat × Nat) (l1 : Option Value) (s : List Value) (h : am_H), am_E P 71 91 [some .null, l1] s h = am_E P 71 92 [some .null, l1] (.null :: s) h) ∧
  (∀ (P : Nat × Nat) (l0 : Option Value) (l1 : Option Value) (s : List Value) (h : am_H), am_E P 71 92 [l0, l1] s h = am_E P 71 95 [l0, l1] (.int 4000 :: s) h) ∧
  (∀ (P : Nat × Nat) (l0 : Option Value) (l1 : Option Value) (x0 : Int32) (s : List Value) (h : am_H), am_E P 71 95 [l0, l1] (.int x0 :: s) h = if x0.toInt < 0 ∨ 1000000 < x0.toInt then none else am_E P 71 97 [l0, l1] (.ref h.1 :: s) (ah_new h x0.toNatClampNeg (ac_I x0.toNatClampNeg (fun _ => 0)))) ∧
  (∀ (P : Nat × Nat) (l0 : Option Value) (l1 : Option Value) (a0 : Nat) (a1 : Nat) (s : List Value) (h : am_H), am_E P 71 97 [l0, l1] (.ref a1 :: .ref a0 :: s) h = (am_p1 h a0 9 13 (.ref a1)).bind (fun h => am_E P 71 100 [l0, l1] s h)) ∧
  (∀ (P : Nat × Nat) (l1 : Option Value) (a0 : Nat) (s : List Value) (h : am_H), am_E P 71 100 [some (.ref a0), l1] s h = am_E P 71 101 [some (.ref a0), l1] (.ref a0 :: s) h) ∧
  (∀ (P : Nat × Nat) (l1 : Option Value) (s : List Value) (h : am_H), am_E P 71 100 [some .null, l1] s h = am_E P 71 101 [some .null, l1] (.null :: s) h) ∧
  (∀ (P : Nat × Nat) (l0 : Option Value) (l1 : Option Value) (s : List Value) (h : am_H), am_E P 71 101 [l0, l1] s h = am_E P 71 102 [l0, l1] (.int 3 :: s) h) ∧
  (∀ (P : Nat × Nat) (l0 : Option Value) (l1 : Option Value) (x0 : Int32) (s : List Value) (h : am_H), am_E P 71 102 [l0, l1] (.int x0 :: s) h = if x0.toInt < 0 ∨ 1000000 < x0.toInt then none else am_E P 71 104 [l0, l1] (.ref h.1 :: s) (ah_new h x0.toNatClampNeg (ac_I x0.toNatClampNeg (fun _ => 0)))) ∧
  (∀ (P : Nat × Nat) (l0 : Option Value) (l1 : Option Value) (a0 : Nat) (a1 : Nat) (s : List Value) (h : am_H), am_E P 71 104 [l0, l1] (.ref a1 :: .ref a0 :: s) h = (am_p1 h a0 9 14 (.ref a1)).bind (fun h => am_E P 71 107 [l0, l1] s h)) ∧
  (∀ (P : Nat × Nat) (l1 : Option Value) (a0 : Nat) (s : List Value) (h : am_H), am_E P 71 107 [some (.ref a0), l1] s h = am_E P 71 108 [some (.ref a0), l1] (.ref a0 :: s) h) ∧
  (∀ (P : Nat × Nat) (l1 : Option Value) (s : List Value) (h : am_H), am_E P 71 107 [some .null, l1] s h = am_E P 71 108 [some .null, l1] (.null :: s) h) ∧
  (∀ (P : Nat × Nat) (l0 : Option Value) (l1 : Option Value) (s : List Value) (h : am_H), am_E P 71 108 [l0, l1] s h = am_E P 71 111 [l0, l1] (.int 6000 :: s) h) ∧
  (∀ (P : Nat × Nat) (l0 : Option Value) (l1 : Option Value) (x0 : Int32) (s : List Value) (h : am_H), am_E P 71 111 [l0, l1] (.int x0 :: s) h = if x0.toInt < 0 ∨ 1000000 < x0.toInt then none else am_E P 71 113 [l0, l1] (.ref h.1 :: s) (ah_new h x0.toNatClampNeg (ac_I x0.toNatClampNeg (fun _ => 0)))) ∧
  (∀ (P : Nat × Nat) (l0 : Option Value) (l1 : Option Value) (a0 : Nat) (a1 : Nat) (s : List Value) (h : am_H), am_E P 71 113 [l0, l1] (.ref a1 :: .ref a0 :: s) h = (am_p1 h a0 9 15 (.ref a1)).bind (fun h => am_E P 71 116 [l0, l1] s h)) ∧
  (∀ (P : Nat × Nat) (l1 : Option Value) (a0 : Nat) (s : List Value) (h : am_H), am_E P 71 116 [some (.ref a0), l1] s h = am_E P 71 117 [some (.ref a0), l1] (.ref a0 :: s) h) ∧
  (∀ (P : Nat × Nat) (l1 : Option Value) (s : List Value) (h : am_H), am_E P 71 116 [some .null, l1] s h = am_E P 71 117 [some .null, l1] (.null :: s) h) ∧
  (∀ (P : Nat × Nat) (l0 : Option Value) (l1 : Option Value) (s : List Value) (h : am_H), am_E P 71 117 [l0, l1] s h = am_E P 71 120 [l0, l1] (.int 6000 :: s) h) ∧
  (∀ (P : Nat × Nat) (l0 : Option Value) (l1 : Option Value) (x0 : Int32) (s : List Value) (h : am_H), am_E P 71 120 [l0, l1] (.int x0 :: s) h = if x0.toInt < 0 ∨ 1000000 < x0.toInt then none else am_E P 71 122 [l0, l1] (.ref h.1 :: s) (ah_new h x0.toNatClampNeg (ac_I x0.toNatClampNeg (fun _ => 0)))) ∧
  (∀ (P : Nat × Nat) (l0 : Option Value) (l1 : Option Value) (a0 : Nat) (a1 : Nat) (s : List Value) (h : am_H), am_E P 71 122 [l0, l1] (.ref a1 :: .ref a0 :: s) h = (am_p1 h a0 9 16 (.ref a1)).bind (fun h => am_E P 71 125 [l0, l1] s h)) ∧
  (∀ (P : Nat × Nat) (l1 : Option Value) (a0 : Nat) (s : List Value) (h : am_H), am_E P 71 125 [some (.ref a0), l1] s h = am_E P 71 126 [some (.ref a0), l1] (.ref a0 :: s) h) ∧
  (∀ (P : Nat × Nat) (l1 : Option Value) (s : List Value) (h : am_H), am_E P 71 125 [some .null, l1] s h = am_E P 71 126 [some .null, l1] (.null :: s) h) ∧
  (∀ (P : Nat × Nat) (l0 : Option Value) (l1 : Option Value) (s : List Value) (h : am_H), am_E P 71 126 [l0, l1] s h = am_E P 71 129 [l0, l1] (.int 6000 :: s) h) ∧
  (∀ (P : Nat × Nat) (l0 : Option Value) (l1 : Option Value) (x0 : Int32) (s : List Value) (h : am_H), am_E P 71 129 [l0, l1] (.int x0 :: s) h = if x0.toInt < 0 ∨ 1000000 < x0.toInt then none else am_E P 71 131 [l0, l1] (.ref h.1 :: s) (ah_new h x0.toNatClampNeg (ac_I x0.toNatClampNeg (fun _ => 0)))) ∧
  (∀ (P : Nat × Nat) (l0 : Option Value) (l1 : Option Value) (a0 : Nat) (a1 : Nat) (s : List Value) (h : am_H), am_E P 71 131 [l0, l1] (.ref a1 :: .ref a0 :: s) h = (am_p1 h a0 9 17 (.ref a1)).bind (fun h => am_E P 71 134 [l0, l1] s h)) ∧
  (∀ (P : Nat × Nat) (l1 : Option Value) (a0 : Nat) (s : List Value) (h : am_H), am_E P 71 134 [some (.ref a0), l1] s h = am_E P 71 135 [some (.ref a0), l1] (.ref a0 :: s) h) ∧
  (∀ (P : Nat × Nat) (l1 : Option Value) (s : List Value) (h : am_H), am_E P 71 134 [some .null, l1] s h = am_E P 71 135 [some .null, l1] (.null :: s) h) ∧
  (∀ (P : Nat × Nat) (l0 : Option Value) (l1 : Option Value) (s : List Value) (h : am_H), am_E P 71 135 [l0, l1] s h = am_E P 71 138 [l0, l1] (.int 6000 :: s) h) ∧
  (∀ (P : Nat × Nat) (l0 : Option Value) (l1 : Option Value) (x0 : Int32) (s : List Value) (h : am_H), am_E P 71 138 [l0, l1] (.int x0 :: s) h = if x0.toInt < 0 ∨ 1000000 < x0.toInt then none else am_E P 71 140 [l0, l1] (.ref h.1 :: s) (ah_new h x0.toNatClampNeg (ac_I x0.toNatClampNeg (fun _ => 0)))) ∧
  (∀ (P : Nat × Nat) (l0 : Option Value) (l1 : Option Value) (a0 : Nat) (a1 : Nat) (s : List Value) (h : am_H), am_E P 71 140 [l0, l1] (.ref a1 :: .ref a0 :: s) h = (am_p1 h a0 9 18 (.ref a1)).bind (fun h => am_E P 71 143 [l0, l1] s h)) ∧
  (∀ (P : Nat × Nat) (l1 : Option Value) (a0 : Nat) (s : List Value) (h : am_H), am_E P 71 143 [some (.ref a0), l1] s h = am_E P 71 144 [some (.ref a0), l1] (.ref a0 :: s) h) ∧
  (∀ (P : Nat × Nat) (l1 : Option Value) (s : List Value) (h : am_H), am_E P 71 143 [some .null, l1] s h = am_E P 71 144 [some .null, l1] (.null :: s) h) ∧
  (∀ (P : Nat × Nat) (l0 : Option Value) (l1 : Option Value) (s : List Value) (h : am_H), am_E P 71 144 [l0, l1] s h = am_E P 71 146 [l0, l1] (.int 30 :: s) h) ∧
  (∀ (P : Nat × Nat) (l0 : Option Value) (l1 : Option Value) (x0 : Int32) (s : List Value) (h : am_H), am_E P 71 146 [l0, l1] (.int x0 :: s) h = if x0.toInt < 0 ∨ 1000000 < x0.toInt then none else am_E P 71 148 [l0, l1] (.ref h.1 :: s) (ah_new h x0.toNatClampNeg (ac_I x0.toNatClampNeg (fun _ => 0)))) ∧
  (∀ (P : Nat × Nat) (l0 : Option Value) (l1 : Option Value) (a0 : Nat) (a1 : Nat) (s : List Value) (h : am_H), am_E P 71 148 [l0, l1] (.ref a1 :: .ref a0 :: s) h = (am_p1 h a0 9 19 (.ref a1)).bind (fun h => am_E P 71 151 [l0, l1] s h)) ∧
  (∀ (P : Nat × Nat) (l1 : Option Value) (a0 : Nat) (s : List Value) (h : am_H), am_E P 71 151 [some (.ref a0), l1] s h = am_E P 71 152 [some (.ref a0), l1] (.ref a0 :: s) h) ∧
  (∀ (P : Nat × Nat) (l1 : Option Value) (s : List Value) (h : am_H), am_E P 71 151 [some .null, l1] s h = am_E P 71 152 [some .null, l1] (.null :: s) h) ∧
  (∀ (P : Nat × Nat) (l0 : Option Value) (l1 : Option Value) (s : List Value) (h : am_H), am_E P 71 152 [l0, l1] s h = am_E P 71 154 [l0, l1] (.int 30 :: s) h) ∧
  (∀ (P : Nat × Nat) (l0 : Option Value) (l1 : Option Value) (x0 : Int32) (s : List Value) (h : am_H), am_E P 71 154 [l0, l1] (.int x0 :: s) h = if x0.toInt < 0 ∨ 1000000 < x0.toInt then none else am_E P 71 156 [l0, l1] (.ref h.1 :: s) (ah_new h x0.toNatClampNeg (ac_I x0.toNatClampNeg (fun _ => 0)))) ∧
  (∀ (P : Nat × Nat) (l0 : Option Value) (l1 : Option Value) (a0 : Nat) (a1 : Nat) (s : List Value) (h : am_H), am_E P 71 156 [l0, l1] (.ref a1 :: .ref a0 :: s) h = (am_p1 h a0 9 20 (.ref a1)).bind (fun h => am_E P 71 159 [l0, l1] s h)) ∧
  (∀ (P : Nat × Nat) (l1 : Option Value) (a0 : Nat) (s : List Value) (h : am_H), am_E P 71 159 [some (.ref a0), l1] s h = am_E P 71 160 [some (.ref a0), l1] (.ref a0 :: s) h) ∧
  (∀ (P : Nat × Nat) (l1 : Option Value) (s : List Value) (h : am_H), am_E P 71 159 [some .null, l1] s h = am_E P 71 160 [some .null, l1] (.null :: s) h) ∧
  (∀ (P : Nat × Nat) (l0 : Option Value) (l1 : Option Value) (s : List Value) (h : am_H), am_E P 71 160 [l0, l1] s h = am_E P 71 162 [l0, l1] (.int 30 :: s) h) ∧
  (∀ (P : Nat × Nat) (l0 : Option Value) (l1 : Option Value) (x0 : Int32) (s : List Value) (h : am_H), am_E P 71 162 [l0, l1] (.int x0 :: s) h = if x0.toInt < 0 ∨ 1000000 < x0.toInt then none else am_E P 71 164 [l0, l1] (.ref h.1 :: s) (ah_new h x0.toNatClampNeg (ac_I x0.toNatClampNeg (fun _ => 0)))) ∧
  (∀ (P : Nat × Nat) (l0 : Option Value) (l1 : Option Value) (a0 : Nat) (a1 : Nat) (s : List Value) (h : am_H), am_E P 71 164 [l0, l1] (.ref a1 :: .ref a0 :: s) h = (am_p1 h a0 9 21 (.ref a1)).bind (fun h => am_E P 71 167 [l0, l1] s h)) ∧
  (∀ (P : Nat × Nat) (l1 : Option Value) (a0 : Nat) (s : List Value) (h : am_H), am_E P 71 167 [some (.ref a0), l1] s h = am_E P 71 168 [some (.ref a0), l1] (.ref a0 :: s) h) ∧
  (∀ (P : Nat × Nat) (l1 : Option Value) (s : List Value) (h : am_H), am_E P 71 167 [some .null, l1] s h = am_E P 71 168 [some .null, l1] (.null :: s) h) ∧
  (∀ (P : Nat × Nat) (l0 : Option Value) (l1 : Option Value) (s : List Value) (h : am_H), am_E P 71 168 [l0, l1] s h = am_E P 71 169 [l0, l1] (.int 4 :: s) h) ∧
  (∀ (P : Nat × Nat) (l0 : Option Value) (l1 : Option Value) (x0 : Int32) (s : List Value) (h : am_H), am_E P 71 169 [l0, l1] (.int x0 :: s) h = if x0.toInt < 0 ∨ 1000000 < x0.toInt then none else am_E P 71 171 [l0, l1] (.ref h.1 :: s) (ah_new h x0.toNatClampNeg (ac_I x0.toNatClampNeg (fun _ => 0)))) ∧
  (∀ (P : Nat × Nat) (l0 : Option Value) (l1 : Option Value) (a0 : Nat) (a1 : Nat) (s : List Value) (h : am_H), am_E P 71 171 [l0, l1] (.ref a1 :: .ref a0 :: s) h = (am_p1 h a0 9 23 (.ref a1)).bind (fun h => am_E P 71 174 [l0, l1] s h)) ∧
  (∀ (P : Nat × Nat) (l1 : Option Value) (a0 : Nat) (s : List Value) (h : am_H), am_E P 71 174 [some (.ref a0), l1] s h = am_E P 71 175 [some (.ref a0), l1] (.ref a0 :: s) h) ∧
  (∀ (P : Nat × Nat) (l1 : Option Value) (s : List Value) (h : am_H), am_E P 71 174 [some .null, l1] s h = am_E P 71 175 [some .null, l1] (.null :: s) h) ∧
  (∀ (P : Nat × Nat) (l0 : Option Value) (l1 : Option Value) (s : List Value) (h : am_H), am_E P 71 175 [l0, l1] s h = am_E P 71 176 [l0, l1] (.int 4 :: s) h) ∧
  (∀ (P : Nat × Nat) (l0 : Option Value) (l1 : Option Value) (x0 : Int32) (s : List Value) (h : am_H), am_E P 71 176 [l0, l1] (.int x0 :: s) h = if x0.toInt < 0 ∨ 1000000 < x0.toInt then none else am_E P 71 178 [l0, l1] (.ref h.1 :: s) (ah_new h x0.toNatClampNeg (ac_I x0.toNatClampNeg (fun _ => 0)))) ∧
  (∀ (P : Nat × Nat) (l0 : Option Value) (l1 : Option Value) (a0 : Nat) (a1 : Nat) (s : List Value) (h : am_H), am_E P 71 178 [l0, l1] (.ref a1 :: .ref a0 :: s) h = (am_p1 h a0 9 24 (.ref a1)).bind (fun h => am_E P 71 181 [l0, l1] s h)) ∧
  (∀ (P : Nat × Nat) (l1 : Option Value) (a0 : Nat) (s : List Value) (h : am_H), am_E P 71 181 [some (.ref a0), l1] s h = am_E P 71 182 [some (.ref a0), l1] (.ref a0 :: s) h) ∧
  (∀ (P : Nat × Nat) (l1 : Option Value) (s : List Value) (h : am_H), am_E P 71 181 [some .null, l1] s h = am_E P 71 182 [some .null, l1] (.null :: s) h) ∧
  (∀ (P : Nat × Nat) (l0 : Option Value) (l1 : Option Value) (s : List Value) (h : am_H), am_E P 71 182 [l0, l1] s h = am_E P 71 184 [l0, l1] (.int (-6) :: s) h) ∧
  (∀ (P : Nat × Nat) (l0 : Option Value) (l1 : Option Value) (a0 : Nat) (x0 : Int32) (s : List Value) (h : am_H), am_E P 71 184 [l0, l1] (.int x0 :: .ref a0 :: s) h = (am_p1 h a0 9 25 (.int x0)).bind (fun h => am_E P 71 187 [l0, l1] s h)) ∧
  (∀ (P : Nat × Nat) (l1 : Option Value) (a0 : Nat) (s : List Value) (h : am_H), am_E P 71 187 [some (.ref a0), l1] s h = am_E P 71 188 [some (.ref a0), l1] (.ref a0 :: s) h) ∧
  (∀ (P : Nat × Nat) (l1 : Option Value) (s : List Value) (h : am_H), am_E P 71 187 [some .null, l1] s h = am_E P 71 188 [some .null, l1] (.null :: s) h) ∧
  (∀ (P : Nat × Nat) (l0 : Option Value) (l1 : Option Value) (s : List Value) (h : am_H), am_E P 71 188 [l0, l1] s h = am_E P 71 191 [l0, l1] (.int 201 :: s) h) ∧
  (∀ (P : Nat × Nat) (l0 : Option Value) (l1 : Option Value) (x0 : Int32) (s : List Value) (h : am_H), am_E P 71 191 [l0, l1] (.int x0 :: s) h = if x0.toInt < 0 ∨ 1000000 < x0.toInt then none else am_E P 71 193 [l0, l1] (.ref h.1 :: s) (ah_new h x0.toNatClampNeg (ac_I x0.toNatClampNeg (fun _ => 0)))) ∧
  (∀ (P : Nat × Nat) (l0 : Option Value) (l1 : Option Value) (a0 : Nat) (a1 : Nat) (s : List Value) (h : am_H), am_E P 71 193 [l0, l1] (.ref a1 :: .ref a0 :: s) h = (am_p1 h a0 9 26 (.ref a1)).bind (fun h => am_E P 71 196 [l0, l1] s h)) ∧
  (∀ (P : Nat × Nat) (l1 : Option Value) (a0 : Nat) (s : List Value) (h : am_H), am_E P 71 196 [some (.ref a0), l1] s h = am_E P 71 197 [some (.ref a0), l1] (.ref a0 :: s) h) ∧
  (∀ (P : Nat × Nat) (l1 : Option Value) (s : List Value) (h : am_H), am_E P 71 196 [some .null, l1] s h = am_E P 71 197 [some .null, l1] (.null :: s) h) ∧
  (∀ (P : Nat × Nat) (l0 : Option Value) (l1 : Option Value) (s : List Value) (h : am_H), am_E P 71 197 [l0, l1] s h = am_E P 71 199 [l0, l1] (.int (-6) :: s) h) ∧
  (∀ (P : Nat × Nat) (l0 : Option Value) (l1 : Option Value) (a0 : Nat) (x0 : Int32) (s : List Value) (h : am_H), am_E P 71 199 [l0, l1] (.int x0 :: .ref a0 :: s) h = (am_p1 h a0 9 31 (.int x0)).bind (fun h => am_E P 71 202 [l0, l1] s h)) ∧
  (∀ (P : Nat × Nat) (l0 : Option Value) (l1 : Option Value) (s : List Value) (h : am_H), am_E P 71 202 [l0, l1] s h = am_E P 71 203 [l0, l1] (.int 0 :: s) h) ∧
  (∀ (P : Nat × Nat) (l0 : Option Value) (l1 : Option Value) (x0 : Int32) (s : List Value) (h : am_H), am_E P 71 203 [l0, l1] (.int x0 :: s) h = am_E P 71 204 [l0, some (.int x0)] s h) ∧
  (∀ (P : Nat × Nat) (l0 : Option Value) (l1 : Option Value) (s : List Value) (h : am_H), am_E P 71 205 [l0, l1] s h = am_E P 71 207 [l0, l1] (.int 30 :: s) h) ∧
  (∀ (P : Nat × Nat) (l0 : Option Value) (l1 : Option Value) (x0 : Int32) (x1 : Int32) (s : List Value) (h : am_H), am_E P 71 207 [l0, l1] (.int x1 :: .int x0 :: s) h = if x1 ≤ x0 then am_E P 71 224 [l0, l1] s h else am_E P 71 210 [l0, l1] s h) ∧
  (∀ (P : Nat × Nat) (l1 : Option Value) (a0 : Nat) (s : List Value) (h : am_H), am_E P 71 210 [some (.ref a0), l1] s h = am_E P 71 211 [some (.ref a0), l1] (.ref a0 :: s) h) ∧
  (∀ (P : Nat × Nat) (l1 : Option Value) (s : List Value) (h : am_H), am_E P 71 210 [some .null, l1] s h = am_E P 71 211 [some .null, l1] (.null :: s) h) ∧
  (∀ (P : Nat × Nat) (l0 : Option Value) (l1 : Option Value) (a0 : Nat) (s : List Value) (h : am_H), am_E P 71 211 [l0, l1] (.ref a0 :: s) h = (am_g1 h a0 9 19).bind (fun v => am_E P 71 214 [l0, l1] (v :: s) h)) ∧
  (∀ (P : Nat × Nat) (l0 : Option Value) (x0 : Int32) (s : List Value) (h : am_H), am_E P 71 214 [l0, some (.int x0)] s h = am_E P 71 215 [l0, some (.int x0)] (.int x0 :: s) h) ∧
  (∀ (P : Nat × Nat) (l0 : Option Value) (l1 : Option Value) (s : List Value) (h : am_H), am_E P 71 215 [l0, l1] s h = am_E P 71 217 [l0, l1] (.int (-6) :: s) h) ∧
  (∀ (P : Nat × Nat) (l0 : Option Value) (l1 : Option Value) (x0 : Int32) (x1 : Int32) (a0 : Nat) (s : List Value) (h : am_H), am_E P 71 217 [l0, l1] (.int x1 :: .int x0 :: .ref a0 :: s) h = (am_iast h a0 x0 x1).bind (fun h => am_E P 71 218 [l0, l1] s h)) ∧
  (∀ (P : Nat × Nat) (l0 : Option Value) (x0 : Int32) (s : List Value) (h : am_H), am_E P 71 218 [l0, some (.int x0)] s h = am_E P 71 221 [l0, some (.int (x0 + 1))] s h) ∧
  (∀ (P : Nat × Nat) (l0 : Option Value) (l1 : Option Value) (s : List Value) (h : am_H), am_E P 71 221 [l0, l1] s h = am_E P 71 204 [l0, l1] s h) ∧
  (∀ (P : Nat × Nat) (l0 : Option Value) (l1 : Option Value) (h : am_H), am_E P 71 224 [l0, l1] [] h = some (none, h)) :=
  ⟨fun _ _ _ _ _ => er_go rfl rfl,
  fun _ _ _ _ => er_go rfl rfl,
  fun _ _ _ _ _ => er_go rfl rfl,
  fun _ _ _ _ _ => er_go rfl rfl,
  fun _ _ _ _ => er_go rfl rfl,
  fun _ _ _ _ _ => er_go rfl rfl,
  fun _ _ _ _ _ _ => er_newa rfl rfl,
  fun _ _ _ _ _ _ _ => er_put1 rfl rfl,
  fun _ _ _ _ _ => er_go rfl rfl,
  fun _ _ _ _ => er_go rfl rfl,
  fun _ _ _ _ _ => er_go rfl rfl,
  fun _ _ _ _ _ _ => er_newa rfl rfl,
  fun _ _ _ _ _ _ _ => er_put1 rfl rfl,
  fun _ _ _ _ _ => er_go rfl rfl,
  fun _ _ _ _ => er_go rfl rfl,
  fun _ _ _ _ _ => er_go rfl rfl,
  fun _ _ _ _ _ _ => er_newa rfl rfl,
  fun _ _ _ _ _ _ _ => er_put1 rfl rfl,
  fun _ _ _ _ _ => er_go rfl rfl,
  fun _ _ _ _ => er_go rfl rfl,
  fun _ _ _ _ _ => er_go rfl rfl,
  fun _ _ _ _ _ _ => er_newa rfl rfl,
  fun _ _ _ _ _ _ _ => er_put1 rfl rfl,
  fun _ _ _ _ _ => er_go rfl rfl,
  fun _ _ _ _ => er_go rfl rfl,
  fun _ _ _ _ _ => er_go rfl rfl,
  fun _ _ _ _ _ _ => er_newa rfl rfl,
  fun _ _ _ _ _ _ _ => er_put1 rfl rfl,
  fun _ _ _ _ _ => er_go rfl rfl,
  fun _ _ _ _ => er_go rfl rfl,
  fun _ _ _ _ _ => er_go rfl rfl,
  fun _ _ _ _ _ _ => er_newa rfl rfl,
  fun _ _ _ _ _ _ _ => er_put1 rfl rfl,
  fun _ _ _ _ _ => er_go rfl rfl,
  fun _ _ _ _ => er_go rfl rfl,
  fun _ _ _ _ _ => er_go rfl rfl,
  fun _ _ _ _ _ _ => er_newa rfl rfl,
  fun _ _ _ _ _ _ _ => er_put1 rfl rfl,
  fun _ _ _ _ _ => er_go rfl rfl,
  fun _ _ _ _ => er_go rfl rfl,
  fun _ _ _ _ _ => er_go rfl rfl,
  fun _ _ _ _ _ _ => er_newa rfl rfl,
  fun _ _ _ _ _ _ _ => er_put1 rfl rfl,
  fun _ _ _ _ _ => er_go rfl rfl,
  fun _ _ _ _ => er_go rfl rfl,
  fun _ _ _ _ _ => er_go rfl rfl,
  fun _ _ _ _ _ _ => er_newa rfl rfl,
  fun _ _ _ _ _ _ _ => er_put1 rfl rfl,
  fun _ _ _ _ _ => er_go rfl rfl,
  fun _ _ _ _ => er_go rfl rfl,
  fun _ _ _ _ _ => er_go rfl rfl,
  fun _ _ _ _ _ _ => er_newa rfl rfl,
  fun _ _ _ _ _ _ _ => er_put1 rfl rfl,
  fun _ _ _ _ _ => er_go rfl rfl,
  fun _ _ _ _ => er_go rfl rfl,
  fun _ _ _ _ _ => er_go rfl rfl,
  fun _ _ _ _ _ _ => er_newa rfl rfl,
  fun _ _ _ _ _ _ _ => er_put1 rfl rfl,
  fun _ _ _ _ _ => er_go rfl rfl,
  fun _ _ _ _ => er_go rfl rfl,
  fun _ _ _ _ _ => er_go rfl rfl,
  fun _ _ _ _ _ _ => er_newa rfl rfl,
  fun _ _ _ _ _ _ _ => er_put1 rfl rfl,
  fun _ _ _ _ _ => er_go rfl rfl,
  fun _ _ _ _ => er_go rfl rfl,
  fun _ _ _ _ _ => er_go rfl rfl,
  fun _ _ _ _ _ _ => er_newa rfl rfl,
  fun _ _ _ _ _ _ _ => er_put1 rfl rfl,
  fun _ _ _ _ _ => er_go rfl rfl,
  fun _ _ _ _ => er_go rfl rfl,
  fun _ _ _ _ _ => er_go rfl rfl,
  fun _ _ _ _ _ _ => er_newa rfl rfl,
  fun _ _ _ _ _ _ _ => er_put1 rfl rfl,
  fun _ _ _ _ _ => er_go rfl rfl,
  fun _ _ _ _ => er_go rfl rfl,
  fun _ _ _ _ _ => er_go rfl rfl,
  fun _ _ _ _ _ _ => er_newa rfl rfl,
  fun _ _ _ _ _ _ _ => er_put1 rfl rfl,
  fun _ _ _ _ _ => er_go rfl rfl,
  fun _ _ _ _ => er_go rfl rfl,
  fun _ _ _ _ _ => er_go rfl rfl,
  fun _ _ _ _ _ _ => er_newa rfl rfl,
  fun _ _ _ _ _ _ _ => er_put1 rfl rfl,
  fun _ _ _ _ _ => er_go rfl rfl,
  fun _ _ _ _ => er_go rfl rfl,
  fun _ _ _ _ _ => er_go rfl rfl,
  fun _ _ _ _ _ _ => er_newa rfl rfl,
  fun _ _ _ _ _ _ _ => er_put1 rfl rfl,
  fun _ _ _ _ _ => er_go rfl rfl,
  fun _ _ _ _ => er_go rfl rfl,
  fun _ _ _ _ _ => er_go rfl rfl,
  fun _ _ _ _ _ _ => er_newa rfl rfl,
  fun _ _ _ _ _ _ _ => er_put1 rfl rfl,
  fun _ _ _ _ _ => er_go rfl rfl,
  fun _ _ _ _ => er_go rfl rfl,
  fun _ _ _ _ _ => er_go rfl rfl,
  fun _ _ _ _ _ _ => er_newa rfl rfl,
  fun _ _ _ _ _ _ _ => er_put1 rfl rfl,
  fun _ _ _ _ _ => er_go rfl rfl,
  fun _ _ _ _ => er_go rfl rfl,
  fun _ _ _ _ _ => er_go rfl rfl,
  fun _ _ _ _ _ _ => er_newa rfl rfl,
  fun _ _ _ _ _ _ _ => er_put1 rfl rfl,
  fun _ _ _ _ _ => er_go rfl rfl,
  fun _ _ _ _ => er_go rfl rfl,
  fun _ _ _ _ _ => er_go rfl rfl,
  fun _ _ _ _ _ _ => er_newa rfl rfl,
  fun _ _ _ _ _ _ _ => er_put1 rfl rfl,
  fun _ _ _ _ _ => er_go rfl rfl,
  fun _ _ _ _ => er_go rfl rfl,
  fun _ _ _ _ _ => er_go rfl rfl,
  fun _ _ _ _ _ _ => er_newa rfl rfl,
  fun _ _ _ _ _ _ _ => er_put1 rfl rfl,
  fun _ _ _ _ _ => er_go rfl rfl,
  fun _ _ _ _ => er_go rfl rfl,
  fun _ _ _ _ _ => er_go rfl rfl,
  fun _ _ _ _ _ _ _ => er_put1 rfl rfl,
  fun _ _ _ _ _ => er_go rfl rfl,
  fun _ _ _ _ => er_go rfl rfl,
  fun _ _ _ _ _ => er_go rfl rfl,
  fun _ _ _ _ _ _ => er_newa rfl rfl,
  fun _ _ _ _ _ _ _ => er_put1 rfl rfl,
  fun _ _ _ _ _ => er_go rfl rfl,
  fun _ _ _ _ => er_go rfl rfl,
  fun _ _ _ _ _ => er_go rfl rfl,
  fun _ _ _ _ _ _ _ => er_put1 rfl rfl,
  fun _ _ _ _ _ => er_go rfl rfl,
  fun _ _ _ _ _ _ => er_go rfl rfl,
  fun _ _ _ _ _ => er_go rfl rfl,
  fun _ _ _ _ _ _ _ => er_ic_ge rfl,
  fun _ _ _ _ _ => er_go rfl rfl,
  fun _ _ _ _ => er_go rfl rfl,
  fun _ _ _ _ _ _ => er_get1 rfl,
  fun _ _ _ _ _ => er_go rfl rfl,
  fun _ _ _ _ _ => er_go rfl rfl,
  fun _ _ _ _ _ _ _ _ => er_iast rfl,
  fun _ _ _ _ _ => er_go rfl rfl,
  fun _ _ _ _ _ => er_go rfl rfl,
  fun _ _ _ _ => er_ret rfl rfl⟩
set_option maxRecDepth 100000 in
theorem hd71_204 : ∀ (P : Nat × Nat) (l0 : Option Value) (x0 : Int32) (s : List Value) (h : am_H), am_E P 71 204 [l0, some (.int x0)] s h = am_E P 71 205 [l0, some (.int x0)] (.int x0 :: s) h := fun _ _ _ _ _ => er_go rfl rfl
set_option maxRecDepth 100000 in
/-- TwoStepOutputsModel.great(II)I -/
theorem r72 : (∀ (P : Nat × Nat) (l1 : Option Value) (x0 : Int32) (s : List Value) (h : am_H), am_E P 72 0 [some (.int x0), l1] s h = am_E P 72 1 [some (.int x0), l1] (.int x0 :: s) h) ∧
  (∀ (P : Nat × Nat) (l0 : Option Value) (x0 : Int32) (s : List Value) (h : am_H), am_E P 72 1 [l0, some (.int x0)] s h = am_E P 72 2 [l0, some (.int x0)] (.int x0 :: s) h) ∧
  (∀ (P : Nat × Nat) (l0 : Option Value) (l1 : Option Value) (x0 : Int32) (x1 : Int32) (s : List Value) (h : am_H), am_E P 72 2 [l0, l1] (.int x1 :: .int x0 :: s) h = if x0 ≤ x1 then am_E P 72 9 [l0, l1] s h else am_E P 72 5 [l0, l1] s h) ∧
  (∀ (P : Nat × Nat) (l1 : Option Value) (x0 : Int32) (s : List Value) (h : am_H), am_E P 72 5 [some (.int x0), l1] s h = am_E P 72 6 [some (.int x0), l1] (.int x0 :: s) h) ∧
  (∀ (P : Nat × Nat) (l0 : Option Value) (l1 : Option Value) (s : List Value) (h : am_H), am_E P 72 6 [l0, l1] s h = am_E P 72 10 [l0, l1] s h) ∧
  (∀ (P : Nat × Nat) (l0 : Option Value) (x0 : Int32) (s : List Value) (h : am_H), am_E P 72 9 [l0, some (.int x0)] s h = am_E P 72 10 [l0, some (.int x0)] (.int x0 :: s) h) ∧
  (∀ (P : Nat × Nat) (l0 : Option Value) (l1 : Option Value) (x0 : Int32) (h : am_H), am_E P 72 10 [l0, l1] [.int x0] h = some (some (.int x0), h)) :=
  ⟨fun _ _ _ _ _ => er_go rfl rfl,
  fun _ _ _ _ _ => er_go rfl rfl,
  fun _ _ _ _ _ _ _ => er_ic_le rfl,
  fun _ _ _ _ _ => er_go rfl rfl,
  fun _ _ _ _ _ => er_go rfl rfl,
  fun _ _ _ _ _ => er_go rfl rfl,
  fun _ _ _ _ _ => er_ret rfl rfl⟩
set_option maxRecDepth 100000 in
/-- TwoStepOutputsModel.small(II)I -/
theorem r73 : (∀ (P : Nat × Nat) (l1 : Option Value) (x0 : Int32) (s : List Value) (h : am_H), am_E P 73 0 [some (.int x0), l1] s h = am_E P 73 1 [some (.int x0), l1] (.int x0 :: s) h) ∧
  (∀ (P : Nat × Nat) (l0 : Option Value) (x0 : Int32) (s : List Value) (h : am_H), am_E P 73 1 [l0, some (.int x0)] s h = am_E P 73 2 [l0, some (.int x0)] (.int x0 :: s) h) ∧
  (∀ (P : Nat × Nat) (l0 : Option Value) (l1 : Option Value) (x0 : Int32) (x1 : Int32) (s : List Value) (h : am_H), am_E P 73 2 [l0, l1] (.int x1 :: .int x0 :: s) h = if x1 ≤ x0 then am_E P 73 9 [l0, l1] s h else am_E P 73 5 [l0, l1] s h) ∧
  (∀ (P : Nat × Nat) (l1 : Option Value) (x0 : Int32) (s : List Value) (h : am_H), am_E P 73 5 [some (.int x0), l1] s h = am_E P 73 6 [some (.int x0), l1] (.int x0 :: s) h) ∧
  (∀ (P : Nat × Nat) (l0 : Option Value) (l1 : Option Value) (s : List Value) (h : am_H), am_E P 73 6 [l0, l1] s h = am_E P 73 10 [l0, l1] s h) ∧
  (∀ (P : Nat × Nat) (l0 : Option Value) (x0 : Int32) (s : List Value) (h : am_H), am_E P 73 9 [l0, some (.int x0)] s h = am_E P 73 10 [l0, some (.int x0)] (.int x0 :: s) h) ∧
  (∀ (P : Nat × Nat) (l0 : Option Value) (l1 : Option Value) (x0 : Int32) (h : am_H), am_E P 73 10 [l0, l1] [.int x0] h = some (some (.int x0), h)) :=
  ⟨fun _ _ _ _ _ => er_go rfl rfl,
  fun _ _ _ _ _ => er_go rfl rfl,
  fun _ _ _ _ _ _ _ => er_ic_ge rfl,
  fun _ _ _ _ _ => er_go rfl rfl,
  fun _ _ _ _ _ => er_go rfl rfl,
  fun _ _ _ _ _ => er_go rfl rfl,
  fun _ _ _ _ _ => er_ret rfl rfl⟩
set_option maxRecDepth 100000 in
/-- TwoStepOutputsModel.no(III)Z -/
theorem r74 : (∀ (P : Nat × Nat) (l1 : Option Value) (l2 : Option Value) (x0 : Int32) (s : List Value) (h : am_H), am_E P 74 0 [some (.int x0), l1, l2] s h = am_E P 74 1 [some (.int x0), l1, l2] (.int x0 :: s) h) ∧
  (∀ (P : Nat × Nat) (l0 : Option Value) (l2 : Option Value) (x0 : Int32) (s : List Value) (h : am_H), am_E P 74 1 [l0, some (.int x0), l2] s h = am_E P 74 2 [l0, some (.int x0), l2] (.int x0 :: s) h) ∧
  (∀ (P : Nat × Nat) (l0 : Option Value) (l1 : Option Value) (l2 : Option Value) (x0 : Int32) (x1 : Int32) (s : List Value) (h : am_H), am_E P 74 2 [l0, l1, l2] (.int x1 :: .int x0 :: s) h = if x0 < x1 then am_E P 74 10 [l0, l1, l2] s h else am_E P 74 5 [l0, l1, l2] s h) ∧
  (∀ (P : Nat × Nat) (l1 : Option Value) (l2 : Option Value) (x0 : Int32) (s : List Value) (h : am_H), am_E P 74 5 [some (.int x0), l1, l2] s h = am_E P 74 6 [some (.int x0), l1, l2] (.int x0 :: s) h) ∧
  (∀ (P : Nat × Nat) (l0 : Option Value) (l1 : Option Value) (x0 : Int32) (s : List Value) (h : am_H), am_E P 74 6 [l0, l1, some (.int x0)] s h = am_E P 74 7 [l0, l1, some (.int x0)] (.int x0 :: s) h) ∧
  (∀ (P : Nat × Nat) (l0 : Option Value) (l1 : Option Value) (l2 : Option Value) (x0 : Int32) (x1 : Int32) (s : List Value) (h : am_H), am_E P 74 7 [l0, l1, l2] (.int x1 :: .int x0 :: s) h = if x0 ≤ x1 then am_E P 74 14 [l0, l1, l2] s h else am_E P 74 10 [l0, l1, l2] s h) ∧
  (∀ (P : Nat × Nat) (l0 : Option Value) (l1 : Option Value) (l2 : Option Value) (s : List Value) (h : am_H), am_E P 74 10 [l0, l1, l2] s h = am_E P 74 11 [l0, l1, l2] (.int 1 :: s) h) ∧
  (∀ (P : Nat × Nat) (l0 : Option Value) (l1 : Option Value) (l2 : Option Value) (s : List Value) (h : am_H), am_E P 74 11 [l0, l1, l2] s h = am_E P 74 15 [l0, l1, l2] s h) ∧
  (∀ (P : Nat × Nat) (l0 : Option Value) (l1 : Option Value) (l2 : Option Value) (s : List Value) (h : am_H), am_E P 74 14 [l0, l1, l2] s h = am_E P 74 15 [l0, l1, l2] (.int 0 :: s) h) ∧
  (∀ (P : Nat × Nat) (l0 : Option Value) (l1 : Option Value) (l2 : Option Value) (x0 : Int32) (h : am_H), am_E P 74 15 [l0, l1, l2] [.int x0] h = if x0 = 0 ∨ x0 = 1 then some (some (.int x0), h) else none) :=
  ⟨fun _ _ _ _ _ _ => er_go rfl rfl,
  fun _ _ _ _ _ _ => er_go rfl rfl,
  fun _ _ _ _ _ _ _ _ => er_ic_lt rfl,
  fun _ _ _ _ _ _ => er_go rfl rfl,
  fun _ _ _ _ _ _ => er_go rfl rfl,
  fun _ _ _ _ _ _ _ _ => er_ic_le rfl,
  fun _ _ _ _ _ _ => er_go rfl rfl,
  fun _ _ _ _ _ _ => er_go rfl rfl,
  fun _ _ _ _ _ _ => er_go rfl rfl,
  fun _ _ _ _ _ _ => er_retZ rfl rfl⟩
set_option maxRecDepth 100000 in
/-- TwoStepOutputsModel.strange(I)Z -/
theorem r75 : (∀ (P : Nat × Nat) (l0 : Option Value) (x0 : Int32) (s : List Value) (h : am_H), am_E P 75 0 [l0, some (.int x0)] s h = am_E P 75 1 [l0, some (.int x0)] (.int x0 :: s) h) ∧
  (∀ (P : Nat × Nat) (l0 : Option Value) (l1 : Option Value) (s : List Value) (h : am_H), am_E P 75 1 [l0, l1] s h = am_E P 75 2 [l0, l1] (.int 0 :: s) h) ∧
  (∀ (P : Nat × Nat) (l1 : Option Value) (a0 : Nat) (s : List Value) (h : am_H), am_E P 75 2 [some (.ref a0), l1] s h = am_E P 75 3 [some (.ref a0), l1] (.ref a0 :: s) h) ∧
  (∀ (P : Nat × Nat) (l1 : Option Value) (s : List Value) (h : am_H), am_E P 75 2 [some .null, l1] s h = am_E P 75 3 [some .null, l1] (.null :: s) h) ∧
  (∀ (P : Nat × Nat) (l0 : Option Value) (l1 : Option Value) (a0 : Nat) (s : List Value) (h : am_H), am_E P 75 3 [l0, l1] (.ref a0 :: s) h = (am_g1 h a0 9 0).bind (fun v => am_E P 75 6 [l0, l1] (v :: s) h)) ∧
  (∀ (P : Nat × Nat) (l0 : Option Value) (l1 : Option Value) (s : List Value) (h : am_H), am_E P 75 6 [l0, l1] s h = am_E P 75 7 [l0, l1] (.int 1 :: s) h) ∧
  (∀ (P : Nat × Nat) (l0 : Option Value) (l1 : Option Value) (x0 : Int32) (x1 : Int32) (s : List Value) (h : am_H), am_E P 75 7 [l0, l1] (.int x1 :: .int x0 :: s) h = am_E P 75 8 [l0, l1] (.int (x0 - x1) :: s) h) ∧
  (∀ (P : Nat × Nat) (l0 : Option Value) (l1 : Option Value) (x0 : Int32) (x1 : Int32) (x2 : Int32) (h : am_H), am_E P 75 8 [l0, l1] [.int x2, .int x1, .int x0] h = (am_E P 74 0 [some (.int x0), some (.int x1), some (.int x2)] [] h).bind (fun q => am_E P 75 11 [l0, l1] (q.1.toList ++ []) q.2)) ∧
  (∀ (P : Nat × Nat) (l0 : Option Value) (l1 : Option Value) (x0 : Int32) (h : am_H), am_E P 75 11 [l0, l1] [.int x0] h = if x0 = 0 ∨ x0 = 1 then some (some (.int x0), h) else none) :=
  ⟨fun _ _ _ _ _ => er_go rfl rfl,
  fun _ _ _ _ _ => er_go rfl rfl,
  fun _ _ _ _ _ => er_go rfl rfl,
  fun _ _ _ _ => er_go rfl rfl,
  fun _ _ _ _ _ _ => er_get1 rfl,
  fun _ _ _ _ _ => er_go rfl rfl,
  fun _ _ _ _ _ _ _ => er_go rfl rfl,
  fun _ _ _ _ _ _ _ => er_callS rfl rfl rfl,
  fun _ _ _ _ _ => er_retZ rfl rfl⟩
set_option maxRecDepth 100000 in
/-- TwoStepOutputsModel.act()Z -/
theorem r76 : (∀ (P : Nat × Nat) (a0 : Nat) (s : List Value) (h : am_H), am_E P 76 0 [some (.ref a0)] s h = am_E P 76 1 [some (.ref a0)] (.ref a0 :: s) h) ∧
  (∀ (P : Nat × Nat) (s : List Value) (h : am_H), am_E P 76 0 [some .null] s h = am_E P 76 1 [some .null] (.null :: s) h) ∧
  (∀ (P : Nat × Nat) (l0 : Option Value) (a0 : Nat) (s : List Value) (h : am_H), am_E P 76 1 [l0] (.ref a0 :: s) h = (am_g1 h a0 9 31).bind (fun v => am_E P 76 4 [l0] (v :: s) h)) ∧
  (∀ (P : Nat × Nat) (l0 : Option Value) (s : List Value) (h : am_H), am_E P 76 4 [l0] s h = am_E P 76 6 [l0] (.int (-6) :: s) h) ∧
  (∀ (P : Nat × Nat) (l0 : Option Value) (x0 : Int32) (x1 : Int32) (s : List Value) (h : am_H), am_E P 76 6 [l0] (.int x1 :: .int x0 :: s) h = if x0 = x1 then am_E P 76 43 [l0] s h else am_E P 76 9 [l0] s h) ∧
  (∀ (P : Nat × Nat) (a0 : Nat) (s : List Value) (h : am_H), am_E P 76 9 [some (.ref a0)] s h = am_E P 76 10 [some (.ref a0)] (.ref a0 :: s) h) ∧
  (∀ (P : Nat × Nat) (s : List Value) (h : am_H), am_E P 76 9 [some .null] s h = am_E P 76 10 [some .null] (.null :: s) h) ∧
  (∀ (P : Nat × Nat) (l0 : Option Value) (a0 : Nat) (s : List Value) (h : am_H), am_E P 76 10 [l0] (.ref a0 :: s) h = am_E P 76 11 [l0] (.ref a0 :: .ref a0 :: s) h) ∧
  (∀ (P : Nat × Nat) (l0 : Option Value) (a0 : Nat) (s : List Value) (h : am_H), am_E P 76 11 [l0] (.ref a0 :: s) h = (am_g1 h a0 9 31).bind (fun v => am_E P 76 14 [l0] (v :: s) h)) ∧
  (∀ (P : Nat × Nat) (l0 : Option Value) (s : List Value) (h : am_H), am_E P 76 14 [l0] s h = am_E P 76 15 [l0] (.int 1 :: s) h) ∧
  (∀ (P : Nat × Nat) (l0 : Option Value) (x0 : Int32) (x1 : Int32) (s : List Value) (h : am_H), am_E P 76 15 [l0] (.int x1 :: .int x0 :: s) h = am_E P 76 16 [l0] (.int (x0 - x1) :: s) h) ∧
  (∀ (P : Nat × Nat) (l0 : Option Value) (a0 : Nat) (x0 : Int32) (s : List Value) (h : am_H), am_E P 76 16 [l0] (.int x0 :: .ref a0 :: s) h = (am_p1 h a0 9 31 (.int x0)).bind (fun h => am_E P 76 19 [l0] s h)) ∧
  (∀ (P : Nat × Nat) (a0 : Nat) (s : List Value) (h : am_H), am_E P 76 19 [some (.ref a0)] s h = am_E P 76 20 [some (.ref a0)] (.ref a0 :: s) h) ∧
  (∀ (P : Nat × Nat) (s : List Value) (h : am_H), am_E P 76 19 [some .null] s h = am_E P 76 20 [some .null] (.null :: s) h) ∧
  (∀ (P : Nat × Nat) (l0 : Option Value) (a0 : Nat) (s : List Value) (h : am_H), am_E P 76 20 [l0] (.ref a0 :: s) h = (am_g1 h a0 9 31).bind (fun v => am_E P 76 23 [l0] (v :: s) h)) ∧
  (∀ (P : Nat × Nat) (l0 : Option Value) (x0 : Int32) (s : List Value) (h : am_H), am_E P 76 23 [l0] (.int x0 :: s) h = if x0 = 0 then am_E P 76 26 [l0] s h else am_E P 76 43 [l0] s h) ∧
  (∀ (P : Nat × Nat) (a0 : Nat) (s : List Value) (h : am_H), am_E P 76 26 [some (.ref a0)] s h = am_E P 76 27 [some (.ref a0)] (.ref a0 :: s) h) ∧
  (∀ (P : Nat × Nat) (s : List Value) (h : am_H), am_E P 76 26 [some .null] s h = am_E P 76 27 [some .null] (.null :: s) h) ∧
  (∀ (P : Nat × Nat) (l0 : Option Value) (s : List Value) (h : am_H), am_E P 76 27 [l0] s h = am_E P 76 29 [l0] (.int (-6) :: s) h) ∧
  (∀ (P : Nat × Nat) (l0 : Option Value) (a0 : Nat) (x0 : Int32) (s : List Value) (h : am_H), am_E P 76 29 [l0] (.int x0 :: .ref a0 :: s) h = (am_p1 h a0 9 31 (.int x0)).bind (fun h => am_E P 76 32 [l0] s h)) ∧
  (∀ (P : Nat × Nat) (a0 : Nat) (s : List Value) (h : am_H), am_E P 76 32 [some (.ref a0)] s h = am_E P 76 33 [some (.ref a0)] (.ref a0 :: s) h) ∧
  (∀ (P : Nat × Nat) (s : List Value) (h : am_H), am_E P 76 32 [some .null] s h = am_E P 76 33 [some .null] (.null :: s) h) ∧
  (∀ (P : Nat × Nat) (l0 : Option Value) (s : List Value) (h : am_H), am_E P 76 33 [l0] s h = am_E P 76 34 [l0] (.int 1 :: s) h) ∧
  (∀ (P : Nat × Nat) (l0 : Option Value) (a0 : Nat) (x0 : Int32) (s : List Value) (h : am_H), am_E P 76 34 [l0] (.int x0 :: .ref a0 :: s) h = if x0 = 0 ∨ x0 = 1 then (am_p1 h a0 9 30 (.int x0)).bind (fun h => am_E P 76 37 [l0] s h) else none) ∧
  (∀ (P : Nat × Nat) (a0 : Nat) (s : List Value) (h : am_H), am_E P 76 37 [some (.ref a0)] s h = am_E P 76 38 [some (.ref a0)] (.ref a0 :: s) h) ∧
  (∀ (P : Nat × Nat) (s : List Value) (h : am_H), am_E P 76 37 [some .null] s h = am_E P 76 38 [some .null] (.null :: s) h) ∧
  (∀ (P : Nat × Nat) (l0 : Option Value) (a0 : Nat) (h : am_H), am_E P 76 38 [l0] [.ref a0] h = if am_cls h a0 = some 9 then (am_E P 77 0 [some (.ref a0), none] [] h).bind (fun q => am_E P 76 41 [l0] (q.1.toList ++ []) q.2) else none) ∧
  (∀ (P : Nat × Nat) (l0 : Option Value) (s : List Value) (h : am_H), am_E P 76 41 [l0] s h = am_E P 76 42 [l0] (.int 0 :: s) h) ∧
  (∀ (P : Nat × Nat) (l0 : Option Value) (x0 : Int32) (h : am_H), am_E P 76 42 [l0] [.int x0] h = if x0 = 0 ∨ x0 = 1 then some (some (.int x0), h) else none) ∧
  (∀ (P : Nat × Nat) (a0 : Nat) (s : List Value) (h : am_H), am_E P 76 43 [some (.ref a0)] s h = am_E P 76 44 [some (.ref a0)] (.ref a0 :: s) h) ∧
  (∀ (P : Nat × Nat) (s : List Value) (h : am_H), am_E P 76 43 [some .null] s h = am_E P 76 44 [some .null] (.null :: s) h) ∧
  (∀ (P : Nat × Nat) (l0 : Option Value) (a0 : Nat) (s : List Value) (h : am_H), am_E P 76 44 [l0] (.ref a0 :: s) h = am_E P 76 45 [l0] (.ref a0 :: .ref a0 :: s) h) ∧
  (∀ (P : Nat × Nat) (l0 : Option Value) (a0 : Nat) (s : List Value) (h : am_H), am_E P 76 45 [l0] (.ref a0 :: s) h = (am_g1 h a0 9 32).bind (fun v => am_E P 76 48 [l0] (v :: s) h)) ∧
  (∀ (P : Nat × Nat) (l0 : Option Value) (s : List Value) (h : am_H), am_E P 76 48 [l0] s h = am_E P 76 49 [l0] (.int 1 :: s) h) ∧
  (∀ (P : Nat × Nat) (l0 : Option Value) (x0 : Int32) (x1 : Int32) (s : List Value) (h : am_H), am_E P 76 49 [l0] (.int x1 :: .int x0 :: s) h = am_E P 76 50 [l0] (.int (x0 + x1) :: s) h) ∧
  (∀ (P : Nat × Nat) (l0 : Option Value) (a0 : Nat) (x0 : Int32) (s : List Value) (h : am_H), am_E P 76 50 [l0] (.int x0 :: .ref a0 :: s) h = (am_p1 h a0 9 32 (.int x0)).bind (fun h => am_E P 76 53 [l0] s h)) ∧
  (∀ (P : Nat × Nat) (l0 : Option Value) (s : List Value) (h : am_H), am_E P 76 53 [l0] s h = am_E P 76 54 [l0] (.int 1 :: s) h) ∧
  (∀ (P : Nat × Nat) (l0 : Option Value) (x0 : Int32) (h : am_H), am_E P 76 54 [l0] [.int x0] h = if x0 = 0 ∨ x0 = 1 then some (some (.int x0), h) else none) :=
  ⟨fun _ _ _ _ => er_go rfl rfl,
  fun _ _ _ => er_go rfl rfl,
  fun _ _ _ _ _ => er_get1 rfl,
  fun _ _ _ _ => er_go rfl rfl,
  fun _ _ _ _ _ _ => er_ic_eq rfl,
  fun _ _ _ _ => er_go rfl rfl,
  fun _ _ _ => er_go rfl rfl,
  fun _ _ _ _ _ => er_go rfl rfl,
  fun _ _ _ _ _ => er_get1 rfl,
  fun _ _ _ _ => er_go rfl rfl,
  fun _ _ _ _ _ _ => er_go rfl rfl,
  fun _ _ _ _ _ _ => er_put1 rfl rfl,
  fun _ _ _ _ => er_go rfl rfl,
  fun _ _ _ => er_go rfl rfl,
  fun _ _ _ _ _ => er_get1 rfl,
  fun _ _ _ _ _ => er_if_ne rfl,
  fun _ _ _ _ => er_go rfl rfl,
  fun _ _ _ => er_go rfl rfl,
  fun _ _ _ _ => er_go rfl rfl,
  fun _ _ _ _ _ _ => er_put1 rfl rfl,
  fun _ _ _ _ => er_go rfl rfl,
  fun _ _ _ => er_go rfl rfl,
  fun _ _ _ _ => er_go rfl rfl,
  fun _ _ _ _ _ _ => er_putZ rfl rfl,
  fun _ _ _ _ => er_go rfl rfl,
  fun _ _ _ => er_go rfl rfl,
  fun _ _ _ _ => er_callV rfl rfl rfl rfl,
  fun _ _ _ _ => er_go rfl rfl,
  fun _ _ _ _ => er_retZ rfl rfl,
  fun _ _ _ _ => er_go rfl rfl,
  fun _ _ _ => er_go rfl rfl,
  fun _ _ _ _ _ => er_go rfl rfl,
  fun _ _ _ _ _ => er_get1 rfl,
  fun _ _ _ _ => er_go rfl rfl,
  fun _ _ _ _ _ _ => er_go rfl rfl,
  fun _ _ _ _ _ _ => er_put1 rfl rfl,
  fun _ _ _ _ => er_go rfl rfl,
  fun _ _ _ _ => er_retZ rfl rfl⟩
set_option maxRecDepth 100000 in
/-- TwoStepOutputsModel.empty()V -/
theorem r77 : (∀ (P : Nat × Nat) (l0 : Option Value) (l1 : Option Value) (s : List Value) (h : am_H), am_E P 77 0 [l0, l1] s h = am_E P 77 1 [l0, l1] (.int 0 :: s) h) ∧
  (∀ (P : Nat × Nat) (l0 : Option Value) (l1 : Option Value) (x0 : Int32) (s : List Value) (h : am_H), am_E P 77 1 [l0, l1] (.int x0 :: s) h = am_E P 77 2 [l0, some (.int x0)] s h) ∧
  (∀ (P : Nat × Nat) (l0 : Option Value) (l1 : Option Value) (s : List Value) (h : am_H), am_E P 77 3 [l0, l1] s h = am_E P 77 4 [l0, l1] (.int 3 :: s) h) ∧
  (∀ (P : Nat × Nat) (l0 : Option Value) (l1 : Option Value) (x0 : Int32) (x1 : Int32) (s : List Value) (h : am_H), am_E P 77 4 [l0, l1] (.int x1 :: .int x0 :: s) h = if x1 ≤ x0 then am_E P 77 20 [l0, l1] s h else am_E P 77 7 [l0, l1] s h) ∧
  (∀ (P : Nat × Nat) (l1 : Option Value) (a0 : Nat) (s : List Value) (h : am_H), am_E P 77 7 [some (.ref a0), l1] s h = am_E P 77 8 [some (.ref a0), l1] (.ref a0 :: s) h) ∧
  (∀ (P : Nat × Nat) (l1 : Option Value) (s : List Value) (h : am_H), am_E P 77 7 [some .null, l1] s h = am_E P 77 8 [some .null, l1] (.null :: s) h) ∧
  (∀ (P : Nat × Nat) (l0 : Option Value) (l1 : Option Value) (a0 : Nat) (s : List Value) (h : am_H), am_E P 77 8 [l0, l1] (.ref a0 :: s) h = (am_g1 h a0 9 2).bind (fun v => am_E P 77 11 [l0, l1] (v :: s) h)) ∧
  (∀ (P : Nat × Nat) (l0 : Option Value) (x0 : Int32) (s : List Value) (h : am_H), am_E P 77 11 [l0, some (.int x0)] s h = am_E P 77 12 [l0, some (.int x0)] (.int x0 :: s) h) ∧
  (∀ (P : Nat × Nat) (l0 : Option Value) (l1 : Option Value) (s : List Value) (h : am_H), am_E P 77 12 [l0, l1] s h = am_E P 77 13 [l0, l1] (.int 0 :: s) h) ∧
  (∀ (P : Nat × Nat) (l0 : Option Value) (l1 : Option Value) (x0 : Int32) (x1 : Int32) (a0 : Nat) (s : List Value) (h : am_H), am_E P 77 13 [l0, l1] (.int x1 :: .int x0 :: .ref a0 :: s) h = (am_iast h a0 x0 x1).bind (fun h => am_E P 77 14 [l0, l1] s h)) ∧
  (∀ (P : Nat × Nat) (l0 : Option Value) (x0 : Int32) (s : List Value) (h : am_H), am_E P 77 14 [l0, some (.int x0)] s h = am_E P 77 17 [l0, some (.int (x0 + 1))] s h) ∧
  (∀ (P : Nat × Nat) (l0 : Option Value) (l1 : Option Value) (s : List Value) (h : am_H), am_E P 77 17 [l0, l1] s h = am_E P 77 2 [l0, l1] s h) ∧
  (∀ (P : Nat × Nat) (l0 : Option Value) (l1 : Option Value) (h : am_H), am_E P 77 20 [l0, l1] [] h = some (none, h)) :=
  ⟨fun _ _ _ _ _ => er_go rfl rfl,
  fun _ _ _ _ _ _ => er_go rfl rfl,
  fun _ _ _ _ _ => er_go rfl rfl,
  fun _ _ _ _ _ _ _ => er_ic_ge rfl,
  fun _ _ _ _ _ => er_go rfl rfl,
  fun _ _ _ _ => er_go rfl rfl,
  fun _ _ _ _ _ _ => er_get1 rfl,
  fun _ _ _ _ _ => er_go rfl rfl,
  fun _ _ _ _ _ => er_go rfl rfl,
  fun _ _ _ _ _ _ _ _ => er_iast rfl,
  fun _ _ _ _ _ => er_go rfl rfl,
  fun _ _ _ _ _ => er_go rfl rfl,
  fun _ _ _ _ => er_ret rfl rfl⟩
set_option maxRecDepth 100000 in
theorem hd77_2 : ∀ (P : Nat × Nat) (l0 : Option Value) (x0 : Int32) (s : List Value) (h : am_H), am_E P 77 2 [l0, some (.int x0)] s h = am_E P 77 3 [l0, some (.int x0)] (.int x0 :: s) h := fun _ _ _ _ _ => er_go rfl rfl
set_option maxRecDepth 100000 in
/-- TwoStepOutputsModel.record(IIIII)Z -/
theorem r78 : (∀ (P : Nat × Nat) (l1 : Option Value) (l2 : Option Value) (l3 : Option Value) (l4 : Option Value) (l5 : Option Value) (a0 : Nat) (s : List Value) (h : am_H), am_E P 78 0 [some (.ref a0), l1, l2, l3, l4, l5] s h = am_E P 78 1 [some (.ref a0), l1, l2, l3, l4, l5] (.ref a0 :: s) h) ∧
  (∀ (P : Nat × Nat) (l1 : Option Value) (l2 : Option Value) (l3 : Option Value) (l4 : Option Value) (l5 : Option Value) (s : List Value) (h : am_H), am_E P 78 0 [some .null, l1, l2, l3, l4, l5] s h = am_E P 78 1 [some .null, l1, l2, l3, l4, l5] (.null :: s) h) ∧
  (∀ (P : Nat × Nat) (l0 : Option Value) (l1 : Option Value) (l2 : Option Value) (l3 : Option Value) (l4 : Option Value) (l5 : Option Value) (a0 : Nat) (h : am_H), am_E P 78 1 [l0, l1, l2, l3, l4, l5] [.ref a0] h = if am_cls h a0 = some 9 then (am_E P 76 0 [some (.ref a0)] [] h).bind (fun q => am_E P 78 4 [l0, l1, l2, l3, l4, l5] (q.1.toList ++ []) q.2) else none) ∧
  (∀ (P : Nat × Nat) (l0 : Option Value) (l1 : Option Value) (l2 : Option Value) (l3 : Option Value) (l4 : Option Value) (l5 : Option Value) (x0 : Int32) (s : List Value) (h : am_H), am_E P 78 4 [l0, l1, l2, l3, l4, l5] (.int x0 :: s) h = if x0 = 0 then am_E P 78 7 [l0, l1, l2, l3, l4, l5] s h else am_E P 78 9 [l0, l1, l2, l3, l4, l5] s h) ∧
  (∀ (P : Nat × Nat) (l0 : Option Value) (l1 : Option Value) (l2 : Option Value) (l3 : Option Value) (l4 : Option Value) (l5 : Option Value) (s : List Value) (h : am_H), am_E P 78 7 [l0, l1, l2, l3, l4, l5] s h = am_E P 78 8 [l0, l1, l2, l3, l4, l5] (.int 0 :: s) h) ∧
  (∀ (P : Nat × Nat) (l0 : Option Value) (l1 : Option Value) (l2 : Option Value) (l3 : Option Value) (l4 : Option Value) (l5 : Option Value) (x0 : Int32) (h : am_H), am_E P 78 8 [l0, l1, l2, l3, l4, l5] [.int x0] h = if x0 = 0 ∨ x0 = 1 then some (some (.int x0), h) else none) ∧
  (∀ (P : Nat × Nat) (l1 : Option Value) (l2 : Option Value) (l3 : Option Value) (l4 : Option Value) (l5 : Option Value) (a0 : Nat) (s : List Value) (h : am_H), am_E P 78 9 [some (.ref a0), l1, l2, l3, l4, l5] s h = am_E P 78 10 [some (.ref a0), l1, l2, l3, l4, l5] (.ref a0 :: s) h) ∧
  (∀ (P : Nat × Nat) (l1 : Option Value) (l2 : Option Value) (l3 : Option Value) (l4 : Option Value) (l5 : Option Value) (s : List Value) (h : am_H), am_E P 78 9 [some .null, l1, l2, l3, l4, l5] s h = am_E P 78 10 [some .null, l1, l2, l3, l4, l5] (.null :: s) h) ∧
  (∀ (P : Nat × Nat) (l0 : Option Value) (l1 : Option Value) (l2 : Option Value) (l3 : Option Value) (l4 : Option Value) (l5 : Option Value) (a0 : Nat) (s : List Value) (h : am_H), am_E P 78 10 [l0, l1, l2, l3, l4, l5] (.ref a0 :: s) h = (am_g1 h a0 9 9).bind (fun v => am_E P 78 13 [l0, l1, l2, l3, l4, l5] (v :: s) h)) ∧
  (∀ (P : Nat × Nat) (l1 : Option Value) (l2 : Option Value) (l3 : Option Value) (l4 : Option Value) (l5 : Option Value) (a0 : Nat) (s : List Value) (h : am_H), am_E P 78 13 [some (.ref a0), l1, l2, l3, l4, l5] s h = am_E P 78 14 [some (.ref a0), l1, l2, l3, l4, l5] (.ref a0 :: s) h) ∧
  (∀ (P : Nat × Nat) (l1 : Option Value) (l2 : Option Value) (l3 : Option Value) (l4 : Option Value) (l5 : Option Value) (s : List Value) (h : am_H), am_E P 78 13 [some .null, l1, l2, l3, l4, l5] s h = am_E P 78 14 [some .null, l1, l2, l3, l4, l5] (.null :: s) h) ∧
  (∀ (P : Nat × Nat) (l0 : Option Value) (l1 : Option Value) (l2 : Option Value) (l3 : Option Value) (l4 : Option Value) (l5 : Option Value) (a0 : Nat) (s : List Value) (h : am_H), am_E P 78 14 [l0, l1, l2, l3, l4, l5] (.ref a0 :: s) h = (am_g1 h a0 9 8).bind (fun v => am_E P 78 17 [l0, l1, l2, l3, l4, l5] (v :: s) h)) ∧
  (∀ (P : Nat × Nat) (l0 : Option Value) (l2 : Option Value) (l3 : Option Value) (l4 : Option Value) (l5 : Option Value) (x0 : Int32) (s : List Value) (h : am_H), am_E P 78 17 [l0, some (.int x0), l2, l3, l4, l5] s h = am_E P 78 18 [l0, some (.int x0), l2, l3, l4, l5] (.int x0 :: s) h) ∧
  (∀ (P : Nat × Nat) (l0 : Option Value) (l1 : Option Value) (l2 : Option Value) (l3 : Option Value) (l4 : Option Value) (l5 : Option Value) (x0 : Int32) (x1 : Int32) (a0 : Nat) (s : List Value) (h : am_H), am_E P 78 18 [l0, l1, l2, l3, l4, l5] (.int x1 :: .int x0 :: .ref a0 :: s) h = (am_iast h a0 x0 x1).bind (fun h => am_E P 78 19 [l0, l1, l2, l3, l4, l5] s h)) ∧
  (∀ (P : Nat × Nat) (l1 : Option Value) (l2 : Option Value) (l3 : Option Value) (l4 : Option Value) (l5 : Option Value) (a0 : Nat) (s : List Value) (h : am_H), am_E P 78 19 [some (.ref a0), l1, l2, l3, l4, l5] s h = am_E P 78 20 [some (.ref a0), l1, l2, l3, l4, l5] (.ref a0 :: s) h) ∧
  (∀ (P : Nat × Nat) (l1 : Option Value) (l2 : Option Value) (l3 : Option Value) (l4 : Option Value) (l5 : Option Value) (s : List Value) (h : am_H), am_E P 78 19 [some .null, l1, l2, l3, l4, l5] s h = am_E P 78 20 [some .null, l1, l2, l3, l4, l5] (.null :: s) h) ∧
  (∀ (P : Nat × Nat) (l0 : Option Value) (l1 : Option Value) (l2 : Option Value) (l3 : Option Value) (l4 : Option Value) (l5 : Option Value) (a0 : Nat) (s : List Value) (h : am_H), am_E P 78 20 [l0, l1, l2, l3, l4, l5] (.ref a0 :: s) h = (am_g1 h a0 9 10).bind (fun v => am_E P 78 23 [l0, l1, l2, l3, l4, l5] (v :: s) h)) ∧
  (∀ (P : Nat × Nat) (l1 : Option Value) (l2 : Option Value) (l3 : Option Value) (l4 : Option Value) (l5 : Option Value) (a0 : Nat) (s : List Value) (h : am_H), am_E P 78 23 [some (.ref a0), l1, l2, l3, l4, l5] s h = am_E P 78 24 [some (.ref a0), l1, l2, l3, l4, l5] (.ref a0 :: s) h) ∧
  (∀ (P : Nat × Nat) (l1 : Option Value) (l2 : Option Value) (l3 : Option Value) (l4 : Option Value) (l5 : Option Value) (s : List Value) (h : am_H), am_E P 78 23 [some .null, l1, l2, l3, l4, l5] s h = am_E P 78 24 [some .null, l1, l2, l3, l4, l5] (.null :: s) h) ∧
  (∀ (P : Nat × Nat) (l0 : Option Value) (l1 : Option Value) (l2 : Option Value) (l3 : Option Value) (l4 : Option Value) (l5 : Option Value) (a0 : Nat) (s : List Value) (h : am_H), am_E P 78 24 [l0, l1, l2, l3, l4, l5] (.ref a0 :: s) h = (am_g1 h a0 9 8).bind (fun v => am_E P 78 27 [l0, l1, l2, l3, l4, l5] (v :: s) h)) ∧
  (∀ (P : Nat × Nat) (l0 : Option Value) (l1 : Option Value) (l3 : Option Value) (l4 : Option Value) (l5 : Option Value) (x0 : Int32) (s : List Value) (h : am_H), am_E P 78 27 [l0, l1, some (.int x0), l3, l4, l5] s h = am_E P 78 28 [l0, l1, some (.int x0), l3, l4, l5] (.int x0 :: s) h) ∧
  (∀ (P : Nat × Nat) (l0 : Option Value) (l1 : Option Value) (l2 : Option Value) (l3 : Option Value) (l4 : Option Value) (l5 : Option Value) (x0 : Int32) (x1 : Int32) (a0 : Nat) (s : List Value) (h : am_H), am_E P 78 28 [l0, l1, l2, l3, l4, l5] (.int x1 :: .int x0 :: .ref a0 :: s) h = (am_iast h a0 x0 x1).bind (fun h => am_E P 78 29 [l0, l1, l2, l3, l4, l5] s h)) ∧
  (∀ (P : Nat × Nat) (l1 : Option Value) (l2 : Option Value) (l3 : Option Value) (l4 : Option Value) (l5 : Option Value) (a0 : Nat) (s : List Value) (h : am_H), am_E P 78 29 [some (.ref a0), l1, l2, l3, l4, l5] s h = am_E P 78 30 [some (.ref a0), l1, l2, l3, l4, l5] (.ref a0 :: s) h) ∧
  (∀ (P : Nat × Nat) (l1 : Option Value) (l2 : Option Value) (l3 : Option Value) (l4 : Option Value) (l5 : Option Value) (s : List Value) (h : am_H), am_E P 78 29 [some .null, l1, l2, l3, l4, l5] s h = am_E P 78 30 [some .null, l1, l2, l3, l4, l5] (.null :: s) h) ∧
  (∀ (P : Nat × Nat) (l0 : Option Value) (l1 : Option Value) (l2 : Option Value) (l3 : Option Value) (l4 : Option Value) (l5 : Option Value) (a0 : Nat) (s : List Value) (h : am_H), am_E P 78 30 [l0, l1, l2, l3, l4, l5] (.ref a0 :: s) h = (am_g1 h a0 9 11).bind (fun v => am_E P 78 33 [l0, l1, l2, l3, l4, l5] (v :: s) h)) ∧
  (∀ (P : Nat × Nat) (l1 : Option Value) (l2 : Option Value) (l3 : Option Value) (l4 : Option Value) (l5 : Option Value) (a0 : Nat) (s : List Value) (h : am_H), am_E P 78 33 [some (.ref a0), l1, l2, l3, l4, l5] s h = am_E P 78 34 [some (.ref a0), l1, l2, l3, l4, l5] (.ref a0 :: s) h) ∧
  (∀ (P : Nat × Nat) (l1 : Option Value) (l2 : Option Value) (l3 : Option Value) (l4 : Option Value) (l5 : Option Value) (s : List Value) (h : am_H), am_E P 78 33 [some .null, l1, l2, l3, l4, l5] s h = am_E P 78 34 [some .null, l1, l2, l3, l4, l5] (.null :: s) h) ∧
  (∀ (P : Nat × Nat) (l0 : Option Value) (l1 : Option Value) (l2 : Option Value) (l3 : Option Value) (l4 : Option Value) (l5 : Option Value) (a0 : Nat) (s : List Value) (h : am_H), am_E P 78 34 [l0, l1, l2, l3, l4, l5] (.ref a0 :: s) h = (am_g1 h a0 9 8).bind (fun v => am_E P 78 37 [l0, l1, l2, l3, l4, l5] (v :: s) h)) ∧
  (∀ (P : Nat × Nat) (l0 : Option Value) (l1 : Option Value) (l2 : Option Value) (l4 : Option Value) (l5 : Option Value) (x0 : Int32) (s : List Value) (h : am_H), am_E P 78 37 [l0, l1, l2, some (.int x0), l4, l5] s h = am_E P 78 38 [l0, l1, l2, some (.int x0), l4, l5] (.int x0 :: s) h) ∧
  (∀ (P : Nat × Nat) (l0 : Option Value) (l1 : Option Value) (l2 : Option Value) (l3 : Option Value) (l4 : Option Value) (l5 : Option Value) (x0 : Int32) (x1 : Int32) (a0 : Nat) (s : List Value) (h : am_H), am_E P 78 38 [l0, l1, l2, l3, l4, l5] (.int x1 :: .int x0 :: .ref a0 :: s) h = (am_iast h a0 x0 x1).bind (fun h => am_E P 78 39 [l0, l1, l2, l3, l4, l5] s h)) ∧
  (∀ (P : Nat × Nat) (l1 : Option Value) (l2 : Option Value) (l3 : Option Value) (l4 : Option Value) (l5 : Option Value) (a0 : Nat) (s : List Value) (h : am_H), am_E P 78 39 [some (.ref a0), l1, l2, l3, l4, l5] s h = am_E P 78 40 [some (.ref a0), l1, l2, l3, l4, l5] (.ref a0 :: s) h) ∧
  (∀ (P : Nat × Nat) (l1 : Option Value) (l2 : Option Value) (l3 : Option Value) (l4 : Option Value) (l5 : Option Value) (s : List Value) (h : am_H), am_E P 78 39 [some .null, l1, l2, l3, l4, l5] s h = am_E P 78 40 [some .null, l1, l2, l3, l4, l5] (.null :: s) h) ∧
  (∀ (P : Nat × Nat) (l0 : Option Value) (l1 : Option Value) (l2 : Option Value) (l3 : Option Value) (l4 : Option Value) (l5 : Option Value) (a0 : Nat) (s : List Value) (h : am_H), am_E P 78 40 [l0, l1, l2, l3, l4, l5] (.ref a0 :: s) h = (am_g1 h a0 9 12).bind (fun v => am_E P 78 43 [l0, l1, l2, l3, l4, l5] (v :: s) h)) ∧
  (∀ (P : Nat × Nat) (l1 : Option Value) (l2 : Option Value) (l3 : Option Value) (l4 : Option Value) (l5 : Option Value) (a0 : Nat) (s : List Value) (h : am_H), am_E P 78 43 [some (.ref a0), l1, l2, l3, l4, l5] s h = am_E P 78 44 [some (.ref a0), l1, l2, l3, l4, l5] (.ref a0 :: s) h) ∧
  (∀ (P : Nat × Nat) (l1 : Option Value) (l2 : Option Value) (l3 : Option Value) (l4 : Option Value) (l5 : Option Value) (s : List Value) (h : am_H), am_E P 78 43 [some .null, l1, l2, l3, l4, l5] s h = am_E P 78 44 [some .null, l1, l2, l3, l4, l5] (.null :: s) h) ∧
  (∀ (P : Nat × Nat) (l0 : Option Value) (l1 : Option Value) (l2 : Option Value) (l3 : Option Value) (l4 : Option Value) (l5 : Option Value) (a0 : Nat) (s : List Value) (h : am_H), am_E P 78 44 [l0, l1, l2, l3, l4, l5] (.ref a0 :: s) h = (am_g1 h a0 9 8).bind (fun v => am_E P 78 47 [l0, l1, l2, l3, l4, l5] (v :: s) h)) ∧
  (∀ (P : Nat × Nat) (l0 : Option Value) (l1 : Option Value) (l2 : Option Value) (l3 : Option Value) (l5 : Option Value) (x0 : Int32) (s : List Value) (h : am_H), am_E P 78 47 [l0, l1, l2, l3, some (.int x0), l5] s h = am_E P 78 49 [l0, l1, l2, l3, some (.int x0), l5] (.int x0 :: s) h) ∧
  (∀ (P : Nat × Nat) (l0 : Option Value) (l1 : Option Value) (l2 : Option Value) (l3 : Option Value) (l4 : Option Value) (l5 : Option Value) (x0 : Int32) (x1 : Int32) (a0 : Nat) (s : List Value) (h : am_H), am_E P 78 49 [l0, l1, l2, l3, l4, l5] (.int x1 :: .int x0 :: .ref a0 :: s) h = (am_iast h a0 x0 x1).bind (fun h => am_E P 78 50 [l0, l1, l2, l3, l4, l5] s h)) ∧
  (∀ (P : Nat × Nat) (l1 : Option Value) (l2 : Option Value) (l3 : Option Value) (l4 : Option Value) (l5 : Option Value) (a0 : Nat) (s : List Value) (h : am_H), am_E P 78 50 [some (.ref a0), l1, l2, l3, l4, l5] s h = am_E P 78 51 [some (.ref a0), l1, l2, l3, l4, l5] (.ref a0 :: s) h) ∧
  (∀ (P : Nat × Nat) (l1 : Option Value) (l2 : Option Value) (l3 : Option Value) (l4 : Option Value) (l5 : Option Value) (s : List Value) (h : am_H), am_E P 78 50 [some .null, l1, l2, l3, l4, l5] s h = am_E P 78 51 [some .null, l1, l2, l3, l4, l5] (.null :: s) h) ∧
  (∀ (P : Nat × Nat) (l0 : Option Value) (l1 : Option Value) (l2 : Option Value) (l3 : Option Value) (l4 : Option Value) (l5 : Option Value) (a0 : Nat) (s : List Value) (h : am_H), am_E P 78 51 [l0, l1, l2, l3, l4, l5] (.ref a0 :: s) h = (am_g1 h a0 9 13).bind (fun v => am_E P 78 54 [l0, l1, l2, l3, l4, l5] (v :: s) h)) ∧
  (∀ (P : Nat × Nat) (l1 : Option Value) (l2 : Option Value) (l3 : Option Value) (l4 : Option Value) (l5 : Option Value) (a0 : Nat) (s : List Value) (h : am_H), am_E P 78 54 [some (.ref a0), l1, l2, l3, l4, l5] s h = am_E P 78 55 [some (.ref a0), l1, l2, l3, l4, l5] (.ref a0 :: s) h) ∧
  (∀ (P : Nat × Nat) (l1 : Option Value) (l2 : Option Value) (l3 : Option Value) (l4 : Option Value) (l5 : Option Value) (s : List Value) (h : am_H), am_E P 78 54 [some .null, l1, l2, l3, l4, l5] s h = am_E P 78 55 [some .null, l1, l2, l3, l4, l5] (.null :: s) h) ∧
  (∀ (P : Nat × Nat) (l0 : Option Value) (l1 : Option Value) (l2 : Option Value) (l3 : Option Value) (l4 : Option Value) (l5 : Option Value) (a0 : Nat) (s : List Value) (h : am_H), am_E P 78 55 [l0, l1, l2, l3, l4, l5] (.ref a0 :: s) h = (am_g1 h a0 9 8).bind (fun v => am_E P 78 58 [l0, l1, l2, l3, l4, l5] (v :: s) h)) ∧
  (∀ (P : Nat × Nat) (l0 : Option Value) (l1 : Option Value) (l2 : Option Value) (l3 : Option Value) (l4 : Option Value) (x0 : Int32) (s : List Value) (h : am_H), am_E P 78 58 [l0, l1, l2, l3, l4, some (.int x0)] s h = am_E P 78 60 [l0, l1, l2, l3, l4, some (.int x0)] (.int x0 :: s) h) ∧
  (∀ (P : Nat × Nat) (l0 : Option Value) (l1 : Option Value) (l2 : Option Value) (l3 : Option Value) (l4 : Option Value) (l5 : Option Value) (x0 : Int32) (x1 : Int32) (a0 : Nat) (s : List Value) (h : am_H), am_E P 78 60 [l0, l1, l2, l3, l4, l5] (.int x1 :: .int x0 :: .ref a0 :: s) h = (am_iast h a0 x0 x1).bind (fun h => am_E P 78 61 [l0, l1, l2, l3, l4, l5] s h)) ∧
  (∀ (P : Nat × Nat) (l1 : Option Value) (l2 : Option Value) (l3 : Option Value) (l4 : Option Value) (l5 : Option Value) (a0 : Nat) (s : List Value) (h : am_H), am_E P 78 61 [some (.ref a0), l1, l2, l3, l4, l5] s h = am_E P 78 62 [some (.ref a0), l1, l2, l3, l4, l5] (.ref a0 :: s) h) ∧
  (∀ (P : Nat × Nat) (l1 : Option Value) (l2 : Option Value) (l3 : Option Value) (l4 : Option Value) (l5 : Option Value) (s : List Value) (h : am_H), am_E P 78 61 [some .null, l1, l2, l3, l4, l5] s h = am_E P 78 62 [some .null, l1, l2, l3, l4, l5] (.null :: s) h) ∧
  (∀ (P : Nat × Nat) (l0 : Option Value) (l1 : Option Value) (l2 : Option Value) (l3 : Option Value) (l4 : Option Value) (l5 : Option Value) (a0 : Nat) (s : List Value) (h : am_H), am_E P 78 62 [l0, l1, l2, l3, l4, l5] (.ref a0 :: s) h = am_E P 78 63 [l0, l1, l2, l3, l4, l5] (.ref a0 :: .ref a0 :: s) h) ∧
  (∀ (P : Nat × Nat) (l0 : Option Value) (l1 : Option Value) (l2 : Option Value) (l3 : Option Value) (l4 : Option Value) (l5 : Option Value) (a0 : Nat) (s : List Value) (h : am_H), am_E P 78 63 [l0, l1, l2, l3, l4, l5] (.ref a0 :: s) h = (am_g1 h a0 9 8).bind (fun v => am_E P 78 66 [l0, l1, l2, l3, l4, l5] (v :: s) h)) ∧
  (∀ (P : Nat × Nat) (l0 : Option Value) (l1 : Option Value) (l2 : Option Value) (l3 : Option Value) (l4 : Option Value) (l5 : Option Value) (s : List Value) (h : am_H), am_E P 78 66 [l0, l1, l2, l3, l4, l5] s h = am_E P 78 67 [l0, l1, l2, l3, l4, l5] (.int 1 :: s) h) ∧
  (∀ (P : Nat × Nat) (l0 : Option Value) (l1 : Option Value) (l2 : Option Value) (l3 : Option Value) (l4 : Option Value) (l5 : Option Value) (x0 : Int32) (x1 : Int32) (s : List Value) (h : am_H), am_E P 78 67 [l0, l1, l2, l3, l4, l5] (.int x1 :: .int x0 :: s) h = am_E P 78 68 [l0, l1, l2, l3, l4, l5] (.int (x0 + x1) :: s) h) ∧
  (∀ (P : Nat × Nat) (l0 : Option Value) (l1 : Option Value) (l2 : Option Value) (l3 : Option Value) (l4 : Option Value) (l5 : Option Value) (a0 : Nat) (x0 : Int32) (s : List Value) (h : am_H), am_E P 78 68 [l0, l1, l2, l3, l4, l5] (.int x0 :: .ref a0 :: s) h = (am_p1 h a0 9 8 (.int x0)).bind (fun h => am_E P 78 71 [l0, l1, l2, l3, l4, l5] s h)) ∧
  (∀ (P : Nat × Nat) (l0 : Option Value) (l1 : Option Value) (l2 : Option Value) (l3 : Option Value) (l4 : Option Value) (l5 : Option Value) (s : List Value) (h : am_H), am_E P 78 71 [l0, l1, l2, l3, l4, l5] s h = am_E P 78 72 [l0, l1, l2, l3, l4, l5] (.int 1 :: s) h) ∧
  (∀ (P : Nat × Nat) (l0 : Option Value) (l1 : Option Value) (l2 : Option Value) (l3 : Option Value) (l4 : Option Value) (l5 : Option Value) (x0 : Int32) (h : am_H), am_E P 78 72 [l0, l1, l2, l3, l4, l5] [.int x0] h = if x0 = 0 ∨ x0 = 1 then some (some (.int x0), h) else none) :=
  ⟨fun _ _ _ _ _ _ _ _ _ => er_go rfl rfl,
  fun _ _ _ _ _ _ _ _ => er_go rfl rfl,
  fun _ _ _ _ _ _ _ _ _ => er_callV rfl rfl rfl rfl,
  fun _ _ _ _ _ _ _ _ _ _ => er_if_ne rfl,
  fun _ _ _ _ _ _ _ _ _ => er_go rfl rfl,
  fun _ _ _ _ _ _ _ _ _ => er_retZ rfl rfl,
  fun _ _ _ _ _ _ _ _ _ => er_go rfl rfl,
  fun _ _ _ _ _ _ _ _ => er_go rfl rfl,
  fun _ _ _ _ _ _ _ _ _ _ => er_get1 rfl,
  fun _ _ _ _ _ _ _ _ _ => er_go rfl rfl,
  fun _ _ _ _ _ _ _ _ => er_go rfl rfl,
  fun _ _ _ _ _ _ _ _ _ _ => er_get1 rfl,
  fun _ _ _ _ _ _ _ _ _ => er_go rfl rfl,
  fun _ _ _ _ _ _ _ _ _ _ _ _ => er_iast rfl,
  fun _ _ _ _ _ _ _ _ _ => er_go rfl rfl,
  fun _ _ _ _ _ _ _ _ => er_go rfl rfl,
  fun _ _ _ _ _ _ _ _ _ _ => er_get1 rfl,
  fun _ _ _ _ _ _ _ _ _ => er_go rfl rfl,
  fun _ _ _ _ _ _ _ _ => er_go rfl rfl,
  fun _ _ _ _ _ _ _ _ _ _ => er_get1 rfl,
  fun _ _ _ _ _ _ _ _ _ => er_go rfl rfl,
  fun _ _ _ _ _ _ _ _ _ _ _ _ => er_iast rfl,
  fun _ _ _ _ _ _ _ _ _ => er_go rfl rfl,
  fun _ _ _ _ _ _ _ _ => er_go rfl rfl,
  fun _ _ _ _ _ _ _ _ _ _ => er_get1 rfl,
  fun _ _ _ _ _ _ _ _ _ => er_go rfl rfl,
  fun _ _ _ _ _ _ _ _ => er_go rfl rfl,
  fun _ _ _ _ _ _ _ _ _ _ => er_get1 rfl,
  fun _ _ _ _ _ _ _ _ _ => er_go rfl rfl,
  fun _ _ _ _ _ _ _ _ _ _ _ _ => er_iast rfl,
  fun _ _ _ _ _ _ _ _ _ => er_go rfl rfl,
  fun _ _ _ _ _ _ _ _ => er_go rfl rfl,
  fun _ _ _ _ _ _ _ _ _ _ => er_get1 rfl,
  fun _ _ _ _ _ _ _ _ _ => er_go rfl rfl,
  fun _ _ _ _ _ _ _ _ => er_go rfl rfl,
  fun _ _ _ _ _ _ _ _ _ _ => er_get1 rfl,
  fun _ _ _ _ _ _ _ _ _ => er_go rfl rfl,
  fun _ _ _ _ _ _ _ _ _ _ _ _ => er_iast rfl,
  fun _ _ _ _ _ _ _ _ _ => er_go rfl rfl,
  fun _ _ _ _ _ _ _ _ => er_go rfl rfl,
  fun _ _ _ _ _ _ _ _ _ _ => er_get1 rfl,
  fun _ _ _ _ _ _ _ _ _ => er_go rfl rfl,
  fun _ _ _ _ _ _ _ _ => er_go rfl rfl,
  fun _ _ _ _ _ _ _ _ _ _ => er_get1 rfl,
  fun _ _ _ _ _ _ _ _ _ => er_go rfl rfl,
  fun _ _ _ _ _ _ _ _ _ _ _ _ => er_iast rfl,
  fun _ _ _ _ _ _ _ _ _ => er_go rfl rfl,
  fun _ _ _ _ _ _ _ _ => er_go rfl rfl,
  fun _ _ _ _ _ _ _ _ _ _ => er_go rfl rfl,
  fun _ _ _ _ _ _ _ _ _ _ => er_get1 rfl,
  fun _ _ _ _ _ _ _ _ _ => er_go rfl rfl,
  fun _ _ _ _ _ _ _ _ _ _ _ => er_go rfl rfl,
  fun _ _ _ _ _ _ _ _ _ _ _ => er_put1 rfl rfl,
  fun _ _ _ _ _ _ _ _ _ => er_go rfl rfl,
  fun _ _ _ _ _ _ _ _ _ => er_retZ rfl rfl⟩
set_option maxRecDepth 100000 in
/-- TwoStepOutputsModel.rowsOf(II)I -/
theorem r79 : (∀ (P : Nat × Nat) (l0 : Option Value) (l1 : Option Value) (l2 : Option Value) (l3 : Option Value) (l4 : Option Value) (s : List Value) (h : am_H), am_E P 79 0 [l0, l1, l2, l3, l4] s h = am_E P 79 1 [l0, l1, l2, l3, l4] (.int 0 :: s) h) ∧
  (∀ (P : Nat × Nat) (l0 : Option Value) (l1 : Option Value) (l2 : Option Value) (l3 : Option Value) (l4 : Option Value) (x0 : Int32) (s : List Value) (h : am_H), am_E P 79 1 [l0, l1, l2, l3, l4] (.int x0 :: s) h = am_E P 79 2 [l0, l1, l2, some (.int x0), l4] s h) ∧
  (∀ (P : Nat × Nat) (l0 : Option Value) (l1 : Option Value) (l2 : Option Value) (l3 : Option Value) (l4 : Option Value) (s : List Value) (h : am_H), am_E P 79 2 [l0, l1, l2, l3, l4] s h = am_E P 79 3 [l0, l1, l2, l3, l4] (.int 0 :: s) h) ∧
  (∀ (P : Nat × Nat) (l0 : Option Value) (l1 : Option Value) (l2 : Option Value) (l3 : Option Value) (l4 : Option Value) (x0 : Int32) (s : List Value) (h : am_H), am_E P 79 3 [l0, l1, l2, l3, l4] (.int x0 :: s) h = am_E P 79 5 [l0, l1, l2, l3, some (.int x0)] s h) ∧
  (∀ (P : Nat × Nat) (l1 : Option Value) (l2 : Option Value) (l3 : Option Value) (l4 : Option Value) (a0 : Nat) (s : List Value) (h : am_H), am_E P 79 7 [some (.ref a0), l1, l2, l3, l4] s h = am_E P 79 8 [some (.ref a0), l1, l2, l3, l4] (.ref a0 :: s) h) ∧
  (∀ (P : Nat × Nat) (l1 : Option Value) (l2 : Option Value) (l3 : Option Value) (l4 : Option Value) (s : List Value) (h : am_H), am_E P 79 7 [some .null, l1, l2, l3, l4] s h = am_E P 79 8 [some .null, l1, l2, l3, l4] (.null :: s) h) ∧
  (∀ (P : Nat × Nat) (l0 : Option Value) (l1 : Option Value) (l2 : Option Value) (l3 : Option Value) (l4 : Option Value) (a0 : Nat) (s : List Value) (h : am_H), am_E P 79 8 [l0, l1, l2, l3, l4] (.ref a0 :: s) h = (am_g1 h a0 9 8).bind (fun v => am_E P 79 11 [l0, l1, l2, l3, l4] (v :: s) h)) ∧
  (∀ (P : Nat × Nat) (l0 : Option Value) (l1 : Option Value) (l2 : Option Value) (l3 : Option Value) (l4 : Option Value) (x0 : Int32) (x1 : Int32) (s : List Value) (h : am_H), am_E P 79 11 [l0, l1, l2, l3, l4] (.int x1 :: .int x0 :: s) h = if x1 ≤ x0 then am_E P 79 60 [l0, l1, l2, l3, l4] s h else am_E P 79 14 [l0, l1, l2, l3, l4] s h) ∧
  (∀ (P : Nat × Nat) (l0 : Option Value) (l1 : Option Value) (l2 : Option Value) (l4 : Option Value) (x0 : Int32) (s : List Value) (h : am_H), am_E P 79 14 [l0, l1, l2, some (.int x0), l4] s h = am_E P 79 15 [l0, l1, l2, some (.int x0), l4] (.int x0 :: s) h) ∧
  (∀ (P : Nat × Nat) (l1 : Option Value) (l2 : Option Value) (l3 : Option Value) (l4 : Option Value) (a0 : Nat) (s : List Value) (h : am_H), am_E P 79 15 [some (.ref a0), l1, l2, l3, l4] s h = am_E P 79 16 [some (.ref a0), l1, l2, l3, l4] (.ref a0 :: s) h) ∧
  (∀ (P : Nat × Nat) (l1 : Option Value) (l2 : Option Value) (l3 : Option Value) (l4 : Option Value) (s : List Value) (h : am_H), am_E P 79 15 [some .null, l1, l2, l3, l4] s h = am_E P 79 16 [some .null, l1, l2, l3, l4] (.null :: s) h) ∧
  (∀ (P : Nat × Nat) (l0 : Option Value) (l1 : Option Value) (l2 : Option Value) (l3 : Option Value) (l4 : Option Value) (a0 : Nat) (s : List Value) (h : am_H), am_E P 79 16 [l0, l1, l2, l3, l4] (.ref a0 :: s) h = (am_g1 h a0 9 9).bind (fun v => am_E P 79 19 [l0, l1, l2, l3, l4] (v :: s) h)) ∧
  (∀ (P : Nat × Nat) (l0 : Option Value) (l1 : Option Value) (l2 : Option Value) (l3 : Option Value) (x0 : Int32) (s : List Value) (h : am_H), am_E P 79 19 [l0, l1, l2, l3, some (.int x0)] s h = am_E P 79 21 [l0, l1, l2, l3, some (.int x0)] (.int x0 :: s) h) ∧
  (∀ (P : Nat × Nat) (l0 : Option Value) (l1 : Option Value) (l2 : Option Value) (l3 : Option Value) (l4 : Option Value) (x0 : Int32) (a0 : Nat) (s : List Value) (h : am_H), am_E P 79 21 [l0, l1, l2, l3, l4] (.int x0 :: .ref a0 :: s) h = (am_iald h a0 x0).bind (fun v => am_E P 79 22 [l0, l1, l2, l3, l4] (.int v :: s) h)) ∧
  (∀ (P : Nat × Nat) (l0 : Option Value) (l1 : Option Value) (l2 : Option Value) (l3 : Option Value) (l4 : Option Value) (x0 : Int32) (s : List Value) (h : am_H), am_E P 79 22 [l0, l1, l2, l3, l4] (.int x0 :: s) h = if x0 = 0 then am_E P 79 25 [l0, l1, l2, l3, l4] s h else am_E P 79 51 [l0, l1, l2, l3, l4] s h) ∧
  (∀ (P : Nat × Nat) (l1 : Option Value) (l2 : Option Value) (l3 : Option Value) (l4 : Option Value) (a0 : Nat) (s : List Value) (h : am_H), am_E P 79 25 [some (.ref a0), l1, l2, l3, l4] s h = am_E P 79 26 [some (.ref a0), l1, l2, l3, l4] (.ref a0 :: s) h) ∧
  (∀ (P : Nat × Nat) (l1 : Option Value) (l2 : Option Value) (l3 : Option Value) (l4 : Option Value) (s : List Value) (h : am_H), am_E P 79 25 [some .null, l1, l2, l3, l4] s h = am_E P 79 26 [some .null, l1, l2, l3, l4] (.null :: s) h) ∧
  (∀ (P : Nat × Nat) (l0 : Option Value) (l1 : Option Value) (l2 : Option Value) (l3 : Option Value) (l4 : Option Value) (a0 : Nat) (s : List Value) (h : am_H), am_E P 79 26 [l0, l1, l2, l3, l4] (.ref a0 :: s) h = (am_g1 h a0 9 10).bind (fun v => am_E P 79 29 [l0, l1, l2, l3, l4] (v :: s) h)) ∧
  (∀ (P : Nat × Nat) (l0 : Option Value) (l1 : Option Value) (l2 : Option Value) (l3 : Option Value) (x0 : Int32) (s : List Value) (h : am_H), am_E P 79 29 [l0, l1, l2, l3, some (.int x0)] s h = am_E P 79 31 [l0, l1, l2, l3, some (.int x0)] (.int x0 :: s) h) ∧
  (∀ (P : Nat × Nat) (l0 : Option Value) (l1 : Option Value) (l2 : Option Value) (l3 : Option Value) (l4 : Option Value) (x0 : Int32) (a0 : Nat) (s : List Value) (h : am_H), am_E P 79 31 [l0, l1, l2, l3, l4] (.int x0 :: .ref a0 :: s) h = (am_iald h a0 x0).bind (fun v => am_E P 79 32 [l0, l1, l2, l3, l4] (.int v :: s) h)) ∧
  (∀ (P : Nat × Nat) (l0 : Option Value) (l2 : Option Value) (l3 : Option Value) (l4 : Option Value) (x0 : Int32) (s : List Value) (h : am_H), am_E P 79 32 [l0, some (.int x0), l2, l3, l4] s h = am_E P 79 33 [l0, some (.int x0), l2, l3, l4] (.int x0 :: s) h) ∧
  (∀ (P : Nat × Nat) (l0 : Option Value) (l1 : Option Value) (l2 : Option Value) (l3 : Option Value) (l4 : Option Value) (x0 : Int32) (x1 : Int32) (s : List Value) (h : am_H), am_E P 79 33 [l0, l1, l2, l3, l4] (.int x1 :: .int x0 :: s) h = if x0 = x1 then am_E P 79 36 [l0, l1, l2, l3, l4] s h else am_E P 79 51 [l0, l1, l2, l3, l4] s h) ∧
  (∀ (P : Nat × Nat) (l1 : Option Value) (l2 : Option Value) (l3 : Option Value) (l4 : Option Value) (a0 : Nat) (s : List Value) (h : am_H), am_E P 79 36 [some (.ref a0), l1, l2, l3, l4] s h = am_E P 79 37 [some (.ref a0), l1, l2, l3, l4] (.ref a0 :: s) h) ∧
  (∀ (P : Nat × Nat) (l1 : Option Value) (l2 : Option Value) (l3 : Option Value) (l4 : Option Value) (s : List Value) (h : am_H), am_E P 79 36 [some .null, l1, l2, l3, l4] s h = am_E P 79 37 [some .null, l1, l2, l3, l4] (.null :: s) h) ∧
  (∀ (P : Nat × Nat) (l0 : Option Value) (l1 : Option Value) (l2 : Option Value) (l3 : Option Value) (l4 : Option Value) (a0 : Nat) (s : List Value) (h : am_H), am_E P 79 37 [l0, l1, l2, l3, l4] (.ref a0 :: s) h = (am_g1 h a0 9 11).bind (fun v => am_E P 79 40 [l0, l1, l2, l3, l4] (v :: s) h)) ∧
  (∀ (P : Nat × Nat) (l0 : Option Value) (l1 : Option Value) (l2 : Option Value) (l3 : Option Value) (x0 : Int32) (s : List Value) (h : am_H), am_E P 79 40 [l0, l1, l2, l3, some (.int x0)] s h = am_E P 79 42 [l0, l1, l2, l3, some (.int x0)] (.int x0 :: s) h) ∧
  (∀ (P : Nat × Nat) (l0 : Option Value) (l1 : Option Value) (l2 : Option Value) (l3 : Option Value) (l4 : Option Value) (x0 : Int32) (a0 : Nat) (s : List Value) (h : am_H), am_E P 79 42 [l0, l1, l2, l3, l4] (.int x0 :: .ref a0 :: s) h = (am_iald h a0 x0).bind (fun v => am_E P 79 43 [l0, l1, l2, l3, l4] (.int v :: s) h)) ∧
  (∀ (P : Nat × Nat) (l0 : Option Value) (l1 : Option Value) (l3 : Option Value) (l4 : Option Value) (x0 : Int32) (s : List Value) (h : am_H), am_E P 79 43 [l0, l1, some (.int x0), l3, l4] s h = am_E P 79 44 [l0, l1, some (.int x0), l3, l4] (.int x0 :: s) h) ∧
  (∀ (P : Nat × Nat) (l0 : Option Value) (l1 : Option Value) (l2 : Option Value) (l3 : Option Value) (l4 : Option Value) (x0 : Int32) (x1 : Int32) (s : List Value) (h : am_H), am_E P 79 44 [l0, l1, l2, l3, l4] (.int x1 :: .int x0 :: s) h = if x0 = x1 then am_E P 79 47 [l0, l1, l2, l3, l4] s h else am_E P 79 51 [l0, l1, l2, l3, l4] s h) ∧
  (∀ (P : Nat × Nat) (l0 : Option Value) (l1 : Option Value) (l2 : Option Value) (l3 : Option Value) (l4 : Option Value) (s : List Value) (h : am_H), am_E P 79 47 [l0, l1, l2, l3, l4] s h = am_E P 79 48 [l0, l1, l2, l3, l4] (.int 1 :: s) h) ∧
  (∀ (P : Nat × Nat) (l0 : Option Value) (l1 : Option Value) (l2 : Option Value) (l3 : Option Value) (l4 : Option Value) (s : List Value) (h : am_H), am_E P 79 48 [l0, l1, l2, l3, l4] s h = am_E P 79 52 [l0, l1, l2, l3, l4] s h) ∧
  (∀ (P : Nat × Nat) (l0 : Option Value) (l1 : Option Value) (l2 : Option Value) (l3 : Option Value) (l4 : Option Value) (s : List Value) (h : am_H), am_E P 79 51 [l0, l1, l2, l3, l4] s h = am_E P 79 52 [l0, l1, l2, l3, l4] (.int 0 :: s) h) ∧
  (∀ (P : Nat × Nat) (l0 : Option Value) (l1 : Option Value) (l2 : Option Value) (l3 : Option Value) (l4 : Option Value) (x0 : Int32) (x1 : Int32) (s : List Value) (h : am_H), am_E P 79 52 [l0, l1, l2, l3, l4] (.int x1 :: .int x0 :: s) h = am_E P 79 53 [l0, l1, l2, l3, l4] (.int (x0 + x1) :: s) h) ∧
  (∀ (P : Nat × Nat) (l0 : Option Value) (l1 : Option Value) (l2 : Option Value) (l3 : Option Value) (l4 : Option Value) (x0 : Int32) (s : List Value) (h : am_H), am_E P 79 53 [l0, l1, l2, l3, l4] (.int x0 :: s) h = am_E P 79 54 [l0, l1, l2, some (.int x0), l4] s h) ∧
  (∀ (P : Nat × Nat) (l0 : Option Value) (l1 : Option Value) (l2 : Option Value) (l3 : Option Value) (x0 : Int32) (s : List Value) (h : am_H), am_E P 79 54 [l0, l1, l2, l3, some (.int x0)] s h = am_E P 79 57 [l0, l1, l2, l3, some (.int (x0 + 1))] s h) ∧
  (∀ (P : Nat × Nat) (l0 : Option Value) (l1 : Option Value) (l2 : Option Value) (l3 : Option Value) (l4 : Option Value) (s : List Value) (h : am_H), am_E P 79 57 [l0, l1, l2, l3, l4] s h = am_E P 79 5 [l0, l1, l2, l3, l4] s h) ∧
  (∀ (P : Nat × Nat) (l0 : Option Value) (l1 : Option Value) (l2 : Option Value) (l4 : Option Value) (x0 : Int32) (s : List Value) (h : am_H), am_E P 79 60 [l0, l1, l2, some (.int x0), l4] s h = am_E P 79 61 [l0, l1, l2, some (.int x0), l4] (.int x0 :: s) h) ∧
  (∀ (P : Nat × Nat) (l0 : Option Value) (l1 : Option Value) (l2 : Option Value) (l3 : Option Value) (l4 : Option Value) (x0 : Int32) (h : am_H), am_E P 79 61 [l0, l1, l2, l3, l4] [.int x0] h = some (some (.int x0), h)) :=
  ⟨fun _ _ _ _ _ _ _ _ => er_go rfl rfl,
  fun _ _ _ _ _ _ _ _ _ => er_go rfl rfl,
  fun _ _ _ _ _ _ _ _ => er_go rfl rfl,
  fun _ _ _ _ _ _ _ _ _ => er_go rfl rfl,
  fun _ _ _ _ _ _ _ _ => er_go rfl rfl,
  fun _ _ _ _ _ _ _ => er_go rfl rfl,
  fun _ _ _ _ _ _ _ _ _ => er_get1 rfl,
  fun _ _ _ _ _ _ _ _ _ _ => er_ic_ge rfl,
  fun _ _ _ _ _ _ _ _ => er_go rfl rfl,
  fun _ _ _ _ _ _ _ _ => er_go rfl rfl,
  fun _ _ _ _ _ _ _ => er_go rfl rfl,
  fun _ _ _ _ _ _ _ _ _ => er_get1 rfl,
  fun _ _ _ _ _ _ _ _ => er_go rfl rfl,
  fun _ _ _ _ _ _ _ _ _ _ => er_iald rfl,
  fun _ _ _ _ _ _ _ _ _ => er_if_ne rfl,
  fun _ _ _ _ _ _ _ _ => er_go rfl rfl,
  fun _ _ _ _ _ _ _ => er_go rfl rfl,
  fun _ _ _ _ _ _ _ _ _ => er_get1 rfl,
  fun _ _ _ _ _ _ _ _ => er_go rfl rfl,
  fun _ _ _ _ _ _ _ _ _ _ => er_iald rfl,
  fun _ _ _ _ _ _ _ _ => er_go rfl rfl,
  fun _ _ _ _ _ _ _ _ _ _ => er_ic_ne rfl,
  fun _ _ _ _ _ _ _ _ => er_go rfl rfl,
  fun _ _ _ _ _ _ _ => er_go rfl rfl,
  fun _ _ _ _ _ _ _ _ _ => er_get1 rfl,
  fun _ _ _ _ _ _ _ _ => er_go rfl rfl,
  fun _ _ _ _ _ _ _ _ _ _ => er_iald rfl,
  fun _ _ _ _ _ _ _ _ => er_go rfl rfl,
  fun _ _ _ _ _ _ _ _ _ _ => er_ic_ne rfl,
  fun _ _ _ _ _ _ _ _ => er_go rfl rfl,
  fun _ _ _ _ _ _ _ _ => er_go rfl rfl,
  fun _ _ _ _ _ _ _ _ => er_go rfl rfl,
  fun _ _ _ _ _ _ _ _ _ _ => er_go rfl rfl,
  fun _ _ _ _ _ _ _ _ _ => er_go rfl rfl,
  fun _ _ _ _ _ _ _ _ => er_go rfl rfl,
  fun _ _ _ _ _ _ _ _ => er_go rfl rfl,
  fun _ _ _ _ _ _ _ _ => er_go rfl rfl,
  fun _ _ _ _ _ _ _ _ => er_ret rfl rfl⟩
set_option maxRecDepth 100000 in
theorem hd79_5 : ∀ (P : Nat × Nat) (l0 : Option Value) (l1 : Option Value) (l2 : Option Value) (l3 : Option Value) (x0 : Int32) (s : List Value) (h : am_H), am_E P 79 5 [l0, l1, l2, l3, some (.int x0)] s h = am_E P 79 7 [l0, l1, l2, l3, some (.int x0)] (.int x0 :: s) h := fun _ _ _ _ _ _ _ _ => er_go rfl rfl
set_option maxRecDepth 100000 in
/-- TwoStepOutputsModel.stateOf(II)I -/
theorem r80 : (∀ (P : Nat × Nat) (l0 : Option Value) (l1 : Option Value) (l2 : Option Value) (l3 : Option Value) (l4 : Option Value) (s : List Value) (h : am_H), am_E P 80 0 [l0, l1, l2, l3, l4] s h = am_E P 80 1 [l0, l1, l2, l3, l4] (.int 0 :: s) h) ∧
  (∀ (P : Nat × Nat) (l0 : Option Value) (l1 : Option Value) (l2 : Option Value) (l3 : Option Value) (l4 : Option Value) (x0 : Int32) (s : List Value) (h : am_H), am_E P 80 1 [l0, l1, l2, l3, l4] (.int x0 :: s) h = am_E P 80 2 [l0, l1, l2, some (.int x0), l4] s h) ∧
  (∀ (P : Nat × Nat) (l0 : Option Value) (l1 : Option Value) (l2 : Option Value) (l3 : Option Value) (l4 : Option Value) (s : List Value) (h : am_H), am_E P 80 2 [l0, l1, l2, l3, l4] s h = am_E P 80 3 [l0, l1, l2, l3, l4] (.int 0 :: s) h) ∧
  (∀ (P : Nat × Nat) (l0 : Option Value) (l1 : Option Value) (l2 : Option Value) (l3 : Option Value) (l4 : Option Value) (x0 : Int32) (s : List Value) (h : am_H), am_E P 80 3 [l0, l1, l2, l3, l4] (.int x0 :: s) h = am_E P 80 5 [l0, l1, l2, l3, some (.int x0)] s h) ∧
  (∀ (P : Nat × Nat) (l1 : Option Value) (l2 : Option Value) (l3 : Option Value) (l4 : Option Value) (a0 : Nat) (s : List Value) (h : am_H), am_E P 80 7 [some (.ref a0), l1, l2, l3, l4] s h = am_E P 80 8 [some (.ref a0), l1, l2, l3, l4] (.ref a0 :: s) h) ∧
  (∀ (P : Nat × Nat) (l1 : Option Value) (l2 : Option Value) (l3 : Option Value) (l4 : Option Value) (s : List Value) (h : am_H), am_E P 80 7 [some .null, l1, l2, l3, l4] s h = am_E P 80 8 [some .null, l1, l2, l3, l4] (.null :: s) h) ∧
  (∀ (P : Nat × Nat) (l0 : Option Value) (l1 : Option Value) (l2 : Option Value) (l3 : Option Value) (l4 : Option Value) (a0 : Nat) (s : List Value) (h : am_H), am_E P 80 8 [l0, l1, l2, l3, l4] (.ref a0 :: s) h = (am_g1 h a0 9 8).bind (fun v => am_E P 80 11 [l0, l1, l2, l3, l4] (v :: s) h)) ∧
  (∀ (P : Nat × Nat) (l0 : Option Value) (l1 : Option Value) (l2 : Option Value) (l3 : Option Value) (l4 : Option Value) (x0 : Int32) (x1 : Int32) (s : List Value) (h : am_H), am_E P 80 11 [l0, l1, l2, l3, l4] (.int x1 :: .int x0 :: s) h = if x1 ≤ x0 then am_E P 80 89 [l0, l1, l2, l3, l4] s h else am_E P 80 14 [l0, l1, l2, l3, l4] s h) ∧
  (∀ (P : Nat × Nat) (l1 : Option Value) (l2 : Option Value) (l3 : Option Value) (l4 : Option Value) (a0 : Nat) (s : List Value) (h : am_H), am_E P 80 14 [some (.ref a0), l1, l2, l3, l4] s h = am_E P 80 15 [some (.ref a0), l1, l2, l3, l4] (.ref a0 :: s) h) ∧
  (∀ (P : Nat × Nat) (l1 : Option Value) (l2 : Option Value) (l3 : Option Value) (l4 : Option Value) (s : List Value) (h : am_H), am_E P 80 14 [some .null, l1, l2, l3, l4] s h = am_E P 80 15 [some .null, l1, l2, l3, l4] (.null :: s) h) ∧
  (∀ (P : Nat × Nat) (l0 : Option Value) (l1 : Option Value) (l2 : Option Value) (l3 : Option Value) (l4 : Option Value) (a0 : Nat) (s : List Value) (h : am_H), am_E P 80 15 [l0, l1, l2, l3, l4] (.ref a0 :: s) h = (am_g1 h a0 9 10).bind (fun v => am_E P 80 18 [l0, l1, l2, l3, l4] (v :: s) h)) ∧
  (∀ (P : Nat × Nat) (l0 : Option Value) (l1 : Option Value) (l2 : Option Value) (l3 : Option Value) (x0 : Int32) (s : List Value) (h : am_H), am_E P 80 18 [l0, l1, l2, l3, some (.int x0)] s h = am_E P 80 20 [l0, l1, l2, l3, some (.int x0)] (.int x0 :: s) h) ∧
  (∀ (P : Nat × Nat) (l0 : Option Value) (l1 : Option Value) (l2 : Option Value) (l3 : Option Value) (l4 : Option Value) (x0 : Int32) (a0 : Nat) (s : List Value) (h : am_H), am_E P 80 20 [l0, l1, l2, l3, l4] (.int x0 :: .ref a0 :: s) h = (am_iald h a0 x0).bind (fun v => am_E P 80 21 [l0, l1, l2, l3, l4] (.int v :: s) h)) ∧
  (∀ (P : Nat × Nat) (l0 : Option Value) (l2 : Option Value) (l3 : Option Value) (l4 : Option Value) (x0 : Int32) (s : List Value) (h : am_H), am_E P 80 21 [l0, some (.int x0), l2, l3, l4] s h = am_E P 80 22 [l0, some (.int x0), l2, l3, l4] (.int x0 :: s) h) ∧
  (∀ (P : Nat × Nat) (l0 : Option Value) (l1 : Option Value) (l2 : Option Value) (l3 : Option Value) (l4 : Option Value) (x0 : Int32) (x1 : Int32) (s : List Value) (h : am_H), am_E P 80 22 [l0, l1, l2, l3, l4] (.int x1 :: .int x0 :: s) h = if x0 = x1 then am_E P 80 25 [l0, l1, l2, l3, l4] s h else am_E P 80 83 [l0, l1, l2, l3, l4] s h) ∧
  (∀ (P : Nat × Nat) (l1 : Option Value) (l2 : Option Value) (l3 : Option Value) (l4 : Option Value) (a0 : Nat) (s : List Value) (h : am_H), am_E P 80 25 [some (.ref a0), l1, l2, l3, l4] s h = am_E P 80 26 [some (.ref a0), l1, l2, l3, l4] (.ref a0 :: s) h) ∧
  (∀ (P : Nat × Nat) (l1 : Option Value) (l2 : Option Value) (l3 : Option Value) (l4 : Option Value) (s : List Value) (h : am_H), am_E P 80 25 [some .null, l1, l2, l3, l4] s h = am_E P 80 26 [some .null, l1, l2, l3, l4] (.null :: s) h) ∧
  (∀ (P : Nat × Nat) (l0 : Option Value) (l1 : Option Value) (l2 : Option Value) (l3 : Option Value) (l4 : Option Value) (a0 : Nat) (s : List Value) (h : am_H), am_E P 80 26 [l0, l1, l2, l3, l4] (.ref a0 :: s) h = (am_g1 h a0 9 11).bind (fun v => am_E P 80 29 [l0, l1, l2, l3, l4] (v :: s) h)) ∧
  (∀ (P : Nat × Nat) (l0 : Option Value) (l1 : Option Value) (l2 : Option Value) (l3 : Option Value) (x0 : Int32) (s : List Value) (h : am_H), am_E P 80 29 [l0, l1, l2, l3, some (.int x0)] s h = am_E P 80 31 [l0, l1, l2, l3, some (.int x0)] (.int x0 :: s) h) ∧
  (∀ (P : Nat × Nat) (l0 : Option Value) (l1 : Option Value) (l2 : Option Value) (l3 : Option Value) (l4 : Option Value) (x0 : Int32) (a0 : Nat) (s : List Value) (h : am_H), am_E P 80 31 [l0, l1, l2, l3, l4] (.int x0 :: .ref a0 :: s) h = (am_iald h a0 x0).bind (fun v => am_E P 80 32 [l0, l1, l2, l3, l4] (.int v :: s) h)) ∧
  (∀ (P : Nat × Nat) (l0 : Option Value) (l1 : Option Value) (l3 : Option Value) (l4 : Option Value) (x0 : Int32) (s : List Value) (h : am_H), am_E P 80 32 [l0, l1, some (.int x0), l3, l4] s h = am_E P 80 33 [l0, l1, some (.int x0), l3, l4] (.int x0 :: s) h) ∧
  (∀ (P : Nat × Nat) (l0 : Option Value) (l1 : Option Value) (l2 : Option Value) (l3 : Option Value) (l4 : Option Value) (x0 : Int32) (x1 : Int32) (s : List Value) (h : am_H), am_E P 80 33 [l0, l1, l2, l3, l4] (.int x1 :: .int x0 :: s) h = if x0 = x1 then am_E P 80 36 [l0, l1, l2, l3, l4] s h else am_E P 80 83 [l0, l1, l2, l3, l4] s h) ∧
  (∀ (P : Nat × Nat) (l1 : Option Value) (l2 : Option Value) (l3 : Option Value) (l4 : Option Value) (a0 : Nat) (s : List Value) (h : am_H), am_E P 80 36 [some (.ref a0), l1, l2, l3, l4] s h = am_E P 80 37 [some (.ref a0), l1, l2, l3, l4] (.ref a0 :: s) h) ∧
  (∀ (P : Nat × Nat) (l1 : Option Value) (l2 : Option Value) (l3 : Option Value) (l4 : Option Value) (s : List Value) (h : am_H), am_E P 80 36 [some .null, l1, l2, l3, l4] s h = am_E P 80 37 [some .null, l1, l2, l3, l4] (.null :: s) h) ∧
  (∀ (P : Nat × Nat) (l0 : Option Value) (l1 : Option Value) (l2 : Option Value) (l3 : Option Value) (l4 : Option Value) (a0 : Nat) (s : List Value) (h : am_H), am_E P 80 37 [l0, l1, l2, l3, l4] (.ref a0 :: s) h = (am_g1 h a0 9 9).bind (fun v => am_E P 80 40 [l0, l1, l2, l3, l4] (v :: s) h)) ∧
  (∀ (P : Nat × Nat) (l0 : Option Value) (l1 : Option Value) (l2 : Option Value) (l3 : Option Value) (x0 : Int32) (s : List Value) (h : am_H), am_E P 80 40 [l0, l1, l2, l3, some (.int x0)] s h = am_E P 80 42 [l0, l1, l2, l3, some (.int x0)] (.int x0 :: s) h) ∧
  (∀ (P : Nat × Nat) (l0 : Option Value) (l1 : Option Value) (l2 : Option Value) (l3 : Option Value) (l4 : Option Value) (x0 : Int32) (a0 : Nat) (s : List Value) (h : am_H), am_E P 80 42 [l0, l1, l2, l3, l4] (.int x0 :: .ref a0 :: s) h = (am_iald h a0 x0).bind (fun v => am_E P 80 43 [l0, l1, l2, l3, l4] (.int v :: s) h)) ∧
  (∀ (P : Nat × Nat) (l0 : Option Value) (l1 : Option Value) (l2 : Option Value) (l3 : Option Value) (l4 : Option Value) (s : List Value) (h : am_H), am_E P 80 43 [l0, l1, l2, l3, l4] s h = am_E P 80 44 [l0, l1, l2, l3, l4] (.int 1 :: s) h) ∧
  (∀ (P : Nat × Nat) (l0 : Option Value) (l1 : Option Value) (l2 : Option Value) (l3 : Option Value) (l4 : Option Value) (x0 : Int32) (x1 : Int32) (s : List Value) (h : am_H), am_E P 80 44 [l0, l1, l2, l3, l4] (.int x1 :: .int x0 :: s) h = if x0 = x1 then am_E P 80 47 [l0, l1, l2, l3, l4] s h else am_E P 80 51 [l0, l1, l2, l3, l4] s h) ∧
  (∀ (P : Nat × Nat) (l0 : Option Value) (l1 : Option Value) (l2 : Option Value) (l3 : Option Value) (l4 : Option Value) (s : List Value) (h : am_H), am_E P 80 47 [l0, l1, l2, l3, l4] s h = am_E P 80 48 [l0, l1, l2, l3, l4] (.int 1 :: s) h) ∧
  (∀ (P : Nat × Nat) (l0 : Option Value) (l1 : Option Value) (l2 : Option Value) (l3 : Option Value) (l4 : Option Value) (s : List Value) (h : am_H), am_E P 80 48 [l0, l1, l2, l3, l4] s h = am_E P 80 82 [l0, l1, l2, l3, l4] s h) ∧
  (∀ (P : Nat × Nat) (l1 : Option Value) (l2 : Option Value) (l3 : Option Value) (l4 : Option Value) (a0 : Nat) (s : List Value) (h : am_H), am_E P 80 51 [some (.ref a0), l1, l2, l3, l4] s h = am_E P 80 52 [some (.ref a0), l1, l2, l3, l4] (.ref a0 :: s) h) ∧
  (∀ (P : Nat × Nat) (l1 : Option Value) (l2 : Option Value) (l3 : Option Value) (l4 : Option Value) (s : List Value) (h : am_H), am_E P 80 51 [some .null, l1, l2, l3, l4] s h = am_E P 80 52 [some .null, l1, l2, l3, l4] (.null :: s) h) ∧
  (∀ (P : Nat × Nat) (l0 : Option Value) (l1 : Option Value) (l2 : Option Value) (l3 : Option Value) (l4 : Option Value) (a0 : Nat) (s : List Value) (h : am_H), am_E P 80 52 [l0, l1, l2, l3, l4] (.ref a0 :: s) h = (am_g1 h a0 9 9).bind (fun v => am_E P 80 55 [l0, l1, l2, l3, l4] (v :: s) h)) ∧
  (∀ (P : Nat × Nat) (l0 : Option Value) (l1 : Option Value) (l2 : Option Value) (l3 : Option Value) (x0 : Int32) (s : List Value) (h : am_H), am_E P 80 55 [l0, l1, l2, l3, some (.int x0)] s h = am_E P 80 57 [l0, l1, l2, l3, some (.int x0)] (.int x0 :: s) h) ∧
  (∀ (P : Nat × Nat) (l0 : Option Value) (l1 : Option Value) (l2 : Option Value) (l3 : Option Value) (l4 : Option Value) (x0 : Int32) (a0 : Nat) (s : List Value) (h : am_H), am_E P 80 57 [l0, l1, l2, l3, l4] (.int x0 :: .ref a0 :: s) h = (am_iald h a0 x0).bind (fun v => am_E P 80 58 [l0, l1, l2, l3, l4] (.int v :: s) h)) ∧
  (∀ (P : Nat × Nat) (l0 : Option Value) (l1 : Option Value) (l2 : Option Value) (l3 : Option Value) (l4 : Option Value) (s : List Value) (h : am_H), am_E P 80 58 [l0, l1, l2, l3, l4] s h = am_E P 80 59 [l0, l1, l2, l3, l4] (.int 3 :: s) h) ∧
  (∀ (P : Nat × Nat) (l0 : Option Value) (l1 : Option Value) (l2 : Option Value) (l3 : Option Value) (l4 : Option Value) (x0 : Int32) (x1 : Int32) (s : List Value) (h : am_H), am_E P 80 59 [l0, l1, l2, l3, l4] (.int x1 :: .int x0 :: s) h = if x0 = x1 then am_E P 80 62 [l0, l1, l2, l3, l4] s h else am_E P 80 66 [l0, l1, l2, l3, l4] s h) ∧
  (∀ (P : Nat × Nat) (l0 : Option Value) (l1 : Option Value) (l2 : Option Value) (l3 : Option Value) (l4 : Option Value) (s : List Value) (h : am_H), am_E P 80 62 [l0, l1, l2, l3, l4] s h = am_E P 80 63 [l0, l1, l2, l3, l4] (.int 2 :: s) h) ∧
  (∀ (P : Nat × Nat) (l0 : Option Value) (l1 : Option Value) (l2 : Option Value) (l3 : Option Value) (l4 : Option Value) (s : List Value) (h : am_H), am_E P 80 63 [l0, l1, l2, l3, l4] s h = am_E P 80 82 [l0, l1, l2, l3, l4] s h) ∧
  (∀ (P : Nat × Nat) (l1 : Option Value) (l2 : Option Value) (l3 : Option Value) (l4 : Option Value) (a0 : Nat) (s : List Value) (h : am_H), am_E P 80 66 [some (.ref a0), l1, l2, l3, l4] s h = am_E P 80 67 [some (.ref a0), l1, l2, l3, l4] (.ref a0 :: s) h) ∧
  (∀ (P : Nat × Nat) (l1 : Option Value) (l2 : Option Value) (l3 : Option Value) (l4 : Option Value) (s : List Value) (h : am_H), am_E P 80 66 [some .null, l1, l2, l3, l4] s h = am_E P 80 67 [some .null, l1, l2, l3, l4] (.null :: s) h) ∧
  (∀ (P : Nat × Nat) (l0 : Option Value) (l1 : Option Value) (l2 : Option Value) (l3 : Option Value) (l4 : Option Value) (a0 : Nat) (s : List Value) (h : am_H), am_E P 80 67 [l0, l1, l2, l3, l4] (.ref a0 :: s) h = (am_g1 h a0 9 9).bind (fun v => am_E P 80 70 [l0, l1, l2, l3, l4] (v :: s) h)) ∧
  (∀ (P : Nat × Nat) (l0 : Option Value) (l1 : Option Value) (l2 : Option Value) (l3 : Option Value) (x0 : Int32) (s : List Value) (h : am_H), am_E P 80 70 [l0, l1, l2, l3, some (.int x0)] s h = am_E P 80 72 [l0, l1, l2, l3, some (.int x0)] (.int x0 :: s) h) ∧
  (∀ (P : Nat × Nat) (l0 : Option Value) (l1 : Option Value) (l2 : Option Value) (l3 : Option Value) (l4 : Option Value) (x0 : Int32) (a0 : Nat) (s : List Value) (h : am_H), am_E P 80 72 [l0, l1, l2, l3, l4] (.int x0 :: .ref a0 :: s) h = (am_iald h a0 x0).bind (fun v => am_E P 80 73 [l0, l1, l2, l3, l4] (.int v :: s) h)) ∧
  (∀ (P : Nat × Nat) (l0 : Option Value) (l1 : Option Value) (l2 : Option Value) (l3 : Option Value) (l4 : Option Value) (s : List Value) (h : am_H), am_E P 80 73 [l0, l1, l2, l3, l4] s h = am_E P 80 74 [l0, l1, l2, l3, l4] (.int 4 :: s) h) ∧
  (∀ (P : Nat × Nat) (l0 : Option Value) (l1 : Option Value) (l2 : Option Value) (l3 : Option Value) (l4 : Option Value) (x0 : Int32) (x1 : Int32) (s : List Value) (h : am_H), am_E P 80 74 [l0, l1, l2, l3, l4] (.int x1 :: .int x0 :: s) h = if x0 = x1 then am_E P 80 77 [l0, l1, l2, l3, l4] s h else am_E P 80 81 [l0, l1, l2, l3, l4] s h) ∧
  (∀ (P : Nat × Nat) (l0 : Option Value) (l1 : Option Value) (l2 : Option Value) (l3 : Option Value) (l4 : Option Value) (s : List Value) (h : am_H), am_E P 80 77 [l0, l1, l2, l3, l4] s h = am_E P 80 78 [l0, l1, l2, l3, l4] (.int 3 :: s) h) ∧
  (∀ (P : Nat × Nat) (l0 : Option Value) (l1 : Option Value) (l2 : Option Value) (l3 : Option Value) (l4 : Option Value) (s : List Value) (h : am_H), am_E P 80 78 [l0, l1, l2, l3, l4] s h = am_E P 80 82 [l0, l1, l2, l3, l4] s h) ∧
  (∀ (P : Nat × Nat) (l0 : Option Value) (l1 : Option Value) (l2 : Option Value) (l4 : Option Value) (x0 : Int32) (s : List Value) (h : am_H), am_E P 80 81 [l0, l1, l2, some (.int x0), l4] s h = am_E P 80 82 [l0, l1, l2, some (.int x0), l4] (.int x0 :: s) h) ∧
  (∀ (P : Nat × Nat) (l0 : Option Value) (l1 : Option Value) (l2 : Option Value) (l3 : Option Value) (l4 : Option Value) (x0 : Int32) (s : List Value) (h : am_H), am_E P 80 82 [l0, l1, l2, l3, l4] (.int x0 :: s) h = am_E P 80 83 [l0, l1, l2, some (.int x0), l4] s h) ∧
  (∀ (P : Nat × Nat) (l0 : Option Value) (l1 : Option Value) (l2 : Option Value) (l3 : Option Value) (x0 : Int32) (s : List Value) (h : am_H), am_E P 80 83 [l0, l1, l2, l3, some (.int x0)] s h = am_E P 80 86 [l0, l1, l2, l3, some (.int (x0 + 1))] s h) ∧
  (∀ (P : Nat × Nat) (l0 : Option Value) (l1 : Option Value) (l2 : Option Value) (l3 : Option Value) (l4 : Option Value) (s : List Value) (h : am_H), am_E P 80 86 [l0, l1, l2, l3, l4] s h = am_E P 80 5 [l0, l1, l2, l3, l4] s h) ∧
  (∀ (P : Nat × Nat) (l0 : Option Value) (l1 : Option Value) (l2 : Option Value) (l4 : Option Value) (x0 : Int32) (s : List Value) (h : am_H), am_E P 80 89 [l0, l1, l2, some (.int x0), l4] s h = am_E P 80 90 [l0, l1, l2, some (.int x0), l4] (.int x0 :: s) h) ∧
  (∀ (P : Nat × Nat) (l0 : Option Value) (l1 : Option Value) (l2 : Option Value) (l3 : Option Value) (l4 : Option Value) (x0 : Int32) (h : am_H), am_E P 80 90 [l0, l1, l2, l3, l4] [.int x0] h = some (some (.int x0), h)) :=
  ⟨fun _ _ _ _ _ _ _ _ => er_go rfl rfl,
  fun _ _ _ _ _ _ _ _ _ => er_go rfl rfl,
  fun _ _ _ _ _ _ _ _ => er_go rfl rfl,
  fun _ _ _ _ _ _ _ _ _ => er_go rfl rfl,
  fun _ _ _ _ _ _ _ _ => er_go rfl rfl,
  fun _ _ _ _ _ _ _ => er_go rfl rfl,
  fun _ _ _ _ _ _ _ _ _ => er_get1 rfl,
  fun _ _ _ _ _ _ _ _ _ _ => er_ic_ge rfl,
  fun _ _ _ _ _ _ _ _ => er_go rfl rfl,
  fun _ _ _ _ _ _ _ => er_go rfl rfl,
  fun _ _ _ _ _ _ _ _ _ => er_get1 rfl,
  fun _ _ _ _ _ _ _ _ => er_go rfl rfl,
  fun _ _ _ _ _ _ _ _ _ _ => er_iald rfl,
  fun _ _ _ _ _ _ _ _ => er_go rfl rfl,
  fun _ _ _ _ _ _ _ _ _ _ => er_ic_ne rfl,
  fun _ _ _ _ _ _ _ _ => er_go rfl rfl,
  fun _ _ _ _ _ _ _ => er_go rfl rfl,
  fun _ _ _ _ _ _ _ _ _ => er_get1 rfl,
  fun _ _ _ _ _ _ _ _ => er_go rfl rfl,
  fun _ _ _ _ _ _ _ _ _ _ => er_iald rfl,
  fun _ _ _ _ _ _ _ _ => er_go rfl rfl,
  fun _ _ _ _ _ _ _ _ _ _ => er_ic_ne rfl,
  fun _ _ _ _ _ _ _ _ => er_go rfl rfl,
  fun _ _ _ _ _ _ _ => er_go rfl rfl,
  fun _ _ _ _ _ _ _ _ _ => er_get1 rfl,
  fun _ _ _ _ _ _ _ _ => er_go rfl rfl,
  fun _ _ _ _ _ _ _ _ _ _ => er_iald rfl,
  fun _ _ _ _ _ _ _ _ => er_go rfl rfl,
  fun _ _ _ _ _ _ _ _ _ _ => er_ic_ne rfl,
  fun _ _ _ _ _ _ _ _ => er_go rfl rfl,
  fun _ _ _ _ _ _ _ _ => er_go rfl rfl,
  fun _ _ _ _ _ _ _ _ => er_go rfl rfl,
  fun _ _ _ _ _ _ _ => er_go rfl rfl,
  fun _ _ _ _ _ _ _ _ _ => er_get1 rfl,
  fun _ _ _ _ _ _ _ _ => er_go rfl rfl,
  fun _ _ _ _ _ _ _ _ _ _ => er_iald rfl,
  fun _ _ _ _ _ _ _ _ => er_go rfl rfl,
  fun _ _ _ _ _ _ _ _ _ _ => er_ic_ne rfl,
  fun _ _ _ _ _ _ _ _ => er_go rfl rfl,
  fun _ _ _ _ _ _ _ _ => er_go rfl rfl,
  fun _ _ _ _ _ _ _ _ => er_go rfl rfl,
  fun _ _ _ _ _ _ _ => er_go rfl rfl,
  fun _ _ _ _ _ _ _ _ _ => er_get1 rfl,
  fun _ _ _ _ _ _ _ _ => er_go rfl rfl,
  fun _ _ _ _ _ _ _ _ _ _ => er_iald rfl,
  fun _ _ _ _ _ _ _ _ => er_go rfl rfl,
  fun _ _ _ _ _ _ _ _ _ _ => er_ic_ne rfl,
  fun _ _ _ _ _ _ _ _ => er_go rfl rfl,
  fun _ _ _ _ _ _ _ _ => er_go rfl rfl,
  fun _ _ _ _ _ _ _ _ => er_go rfl rfl,
  fun _ _ _ _ _ _ _ _ _ => er_go rfl rfl,
  fun _ _ _ _ _ _ _ _ => er_go rfl rfl,
  fun _ _ _ _ _ _ _ _ => er_go rfl rfl,
  fun _ _ _ _ _ _ _ _ => er_go rfl rfl,
  fun _ _ _ _ _ _ _ _ => er_ret rfl rfl⟩
set_option maxRecDepth 100000 in
theorem hd80_5 : ∀ (P : Nat × Nat) (l0 : Option Value) (l1 : Option Value) (l2 : Option Value) (l3 : Option Value) (x0 : Int32) (s : List Value) (h : am_H), am_E P 80 5 [l0, l1, l2, l3, some (.int x0)] s h = am_E P 80 7 [l0, l1, l2, l3, some (.int x0)] (.int x0 :: s) h := fun _ _ _ _ _ _ _ _ => er_go rfl rfl
set_option maxRecDepth 100000 in
/-- TwoStepOutputsModel.markOf(II)I -/
theorem r81 : (∀ (P : Nat × Nat) (l0 : Option Value) (l1 : Option Value) (l2 : Option Value) (l3 : Option Value) (s : List Value) (h : am_H), am_E P 81 0 [l0, l1, l2, l3] s h = am_E P 81 1 [l0, l1, l2, l3] (.int 0 :: s) h) ∧
  (∀ (P : Nat × Nat) (l0 : Option Value) (l1 : Option Value) (l2 : Option Value) (l3 : Option Value) (x0 : Int32) (s : List Value) (h : am_H), am_E P 81 1 [l0, l1, l2, l3] (.int x0 :: s) h = am_E P 81 2 [l0, l1, l2, some (.int x0)] s h) ∧
  (∀ (P : Nat × Nat) (l1 : Option Value) (l2 : Option Value) (l3 : Option Value) (a0 : Nat) (s : List Value) (h : am_H), am_E P 81 3 [some (.ref a0), l1, l2, l3] s h = am_E P 81 4 [some (.ref a0), l1, l2, l3] (.ref a0 :: s) h) ∧
  (∀ (P : Nat × Nat) (l1 : Option Value) (l2 : Option Value) (l3 : Option Value) (s : List Value) (h : am_H), am_E P 81 3 [some .null, l1, l2, l3] s h = am_E P 81 4 [some .null, l1, l2, l3] (.null :: s) h) ∧
  (∀ (P : Nat × Nat) (l0 : Option Value) (l1 : Option Value) (l2 : Option Value) (l3 : Option Value) (a0 : Nat) (s : List Value) (h : am_H), am_E P 81 4 [l0, l1, l2, l3] (.ref a0 :: s) h = (am_g1 h a0 9 8).bind (fun v => am_E P 81 7 [l0, l1, l2, l3] (v :: s) h)) ∧
  (∀ (P : Nat × Nat) (l0 : Option Value) (l1 : Option Value) (l2 : Option Value) (l3 : Option Value) (x0 : Int32) (x1 : Int32) (s : List Value) (h : am_H), am_E P 81 7 [l0, l1, l2, l3] (.int x1 :: .int x0 :: s) h = if x1 ≤ x0 then am_E P 81 53 [l0, l1, l2, l3] s h else am_E P 81 10 [l0, l1, l2, l3] s h) ∧
  (∀ (P : Nat × Nat) (l1 : Option Value) (l2 : Option Value) (l3 : Option Value) (a0 : Nat) (s : List Value) (h : am_H), am_E P 81 10 [some (.ref a0), l1, l2, l3] s h = am_E P 81 11 [some (.ref a0), l1, l2, l3] (.ref a0 :: s) h) ∧
  (∀ (P : Nat × Nat) (l1 : Option Value) (l2 : Option Value) (l3 : Option Value) (s : List Value) (h : am_H), am_E P 81 10 [some .null, l1, l2, l3] s h = am_E P 81 11 [some .null, l1, l2, l3] (.null :: s) h) ∧
  (∀ (P : Nat × Nat) (l0 : Option Value) (l1 : Option Value) (l2 : Option Value) (l3 : Option Value) (a0 : Nat) (s : List Value) (h : am_H), am_E P 81 11 [l0, l1, l2, l3] (.ref a0 :: s) h = (am_g1 h a0 9 9).bind (fun v => am_E P 81 14 [l0, l1, l2, l3] (v :: s) h)) ∧
  (∀ (P : Nat × Nat) (l0 : Option Value) (l1 : Option Value) (l2 : Option Value) (x0 : Int32) (s : List Value) (h : am_H), am_E P 81 14 [l0, l1, l2, some (.int x0)] s h = am_E P 81 15 [l0, l1, l2, some (.int x0)] (.int x0 :: s) h) ∧
  (∀ (P : Nat × Nat) (l0 : Option Value) (l1 : Option Value) (l2 : Option Value) (l3 : Option Value) (x0 : Int32) (a0 : Nat) (s : List Value) (h : am_H), am_E P 81 15 [l0, l1, l2, l3] (.int x0 :: .ref a0 :: s) h = (am_iald h a0 x0).bind (fun v => am_E P 81 16 [l0, l1, l2, l3] (.int v :: s) h)) ∧
  (∀ (P : Nat × Nat) (l0 : Option Value) (l1 : Option Value) (l2 : Option Value) (l3 : Option Value) (s : List Value) (h : am_H), am_E P 81 16 [l0, l1, l2, l3] s h = am_E P 81 17 [l0, l1, l2, l3] (.int 1 :: s) h) ∧
  (∀ (P : Nat × Nat) (l0 : Option Value) (l1 : Option Value) (l2 : Option Value) (l3 : Option Value) (x0 : Int32) (x1 : Int32) (s : List Value) (h : am_H), am_E P 81 17 [l0, l1, l2, l3] (.int x1 :: .int x0 :: s) h = if x0 = x1 then am_E P 81 20 [l0, l1, l2, l3] s h else am_E P 81 47 [l0, l1, l2, l3] s h) ∧
  (∀ (P : Nat × Nat) (l1 : Option Value) (l2 : Option Value) (l3 : Option Value) (a0 : Nat) (s : List Value) (h : am_H), am_E P 81 20 [some (.ref a0), l1, l2, l3] s h = am_E P 81 21 [some (.ref a0), l1, l2, l3] (.ref a0 :: s) h) ∧
  (∀ (P : Nat × Nat) (l1 : Option Value) (l2 : Option Value) (l3 : Option Value) (s : List Value) (h : am_H), am_E P 81 20 [some .null, l1, l2, l3] s h = am_E P 81 21 [some .null, l1, l2, l3] (.null :: s) h) ∧
  (∀ (P : Nat × Nat) (l0 : Option Value) (l1 : Option Value) (l2 : Option Value) (l3 : Option Value) (a0 : Nat) (s : List Value) (h : am_H), am_E P 81 21 [l0, l1, l2, l3] (.ref a0 :: s) h = (am_g1 h a0 9 10).bind (fun v => am_E P 81 24 [l0, l1, l2, l3] (v :: s) h)) ∧
  (∀ (P : Nat × Nat) (l0 : Option Value) (l1 : Option Value) (l2 : Option Value) (x0 : Int32) (s : List Value) (h : am_H), am_E P 81 24 [l0, l1, l2, some (.int x0)] s h = am_E P 81 25 [l0, l1, l2, some (.int x0)] (.int x0 :: s) h) ∧
  (∀ (P : Nat × Nat) (l0 : Option Value) (l1 : Option Value) (l2 : Option Value) (l3 : Option Value) (x0 : Int32) (a0 : Nat) (s : List Value) (h : am_H), am_E P 81 25 [l0, l1, l2, l3] (.int x0 :: .ref a0 :: s) h = (am_iald h a0 x0).bind (fun v => am_E P 81 26 [l0, l1, l2, l3] (.int v :: s) h)) ∧
  (∀ (P : Nat × Nat) (l0 : Option Value) (l2 : Option Value) (l3 : Option Value) (x0 : Int32) (s : List Value) (h : am_H), am_E P 81 26 [l0, some (.int x0), l2, l3] s h = am_E P 81 27 [l0, some (.int x0), l2, l3] (.int x0 :: s) h) ∧
  (∀ (P : Nat × Nat) (l0 : Option Value) (l1 : Option Value) (l2 : Option Value) (l3 : Option Value) (x0 : Int32) (x1 : Int32) (s : List Value) (h : am_H), am_E P 81 27 [l0, l1, l2, l3] (.int x1 :: .int x0 :: s) h = if x0 = x1 then am_E P 81 30 [l0, l1, l2, l3] s h else am_E P 81 47 [l0, l1, l2, l3] s h) ∧
  (∀ (P : Nat × Nat) (l1 : Option Value) (l2 : Option Value) (l3 : Option Value) (a0 : Nat) (s : List Value) (h : am_H), am_E P 81 30 [some (.ref a0), l1, l2, l3] s h = am_E P 81 31 [some (.ref a0), l1, l2, l3] (.ref a0 :: s) h) ∧
  (∀ (P : Nat × Nat) (l1 : Option Value) (l2 : Option Value) (l3 : Option Value) (s : List Value) (h : am_H), am_E P 81 30 [some .null, l1, l2, l3] s h = am_E P 81 31 [some .null, l1, l2, l3] (.null :: s) h) ∧
  (∀ (P : Nat × Nat) (l0 : Option Value) (l1 : Option Value) (l2 : Option Value) (l3 : Option Value) (a0 : Nat) (s : List Value) (h : am_H), am_E P 81 31 [l0, l1, l2, l3] (.ref a0 :: s) h = (am_g1 h a0 9 11).bind (fun v => am_E P 81 34 [l0, l1, l2, l3] (v :: s) h)) ∧
  (∀ (P : Nat × Nat) (l0 : Option Value) (l1 : Option Value) (l2 : Option Value) (x0 : Int32) (s : List Value) (h : am_H), am_E P 81 34 [l0, l1, l2, some (.int x0)] s h = am_E P 81 35 [l0, l1, l2, some (.int x0)] (.int x0 :: s) h) ∧
  (∀ (P : Nat × Nat) (l0 : Option Value) (l1 : Option Value) (l2 : Option Value) (l3 : Option Value) (x0 : Int32) (a0 : Nat) (s : List Value) (h : am_H), am_E P 81 35 [l0, l1, l2, l3] (.int x0 :: .ref a0 :: s) h = (am_iald h a0 x0).bind (fun v => am_E P 81 36 [l0, l1, l2, l3] (.int v :: s) h)) ∧
  (∀ (P : Nat × Nat) (l0 : Option Value) (l1 : Option Value) (l3 : Option Value) (x0 : Int32) (s : List Value) (h : am_H), am_E P 81 36 [l0, l1, some (.int x0), l3] s h = am_E P 81 37 [l0, l1, some (.int x0), l3] (.int x0 :: s) h) ∧
  (∀ (P : Nat × Nat) (l0 : Option Value) (l1 : Option Value) (l2 : Option Value) (l3 : Option Value) (x0 : Int32) (x1 : Int32) (s : List Value) (h : am_H), am_E P 81 37 [l0, l1, l2, l3] (.int x1 :: .int x0 :: s) h = if x0 = x1 then am_E P 81 40 [l0, l1, l2, l3] s h else am_E P 81 47 [l0, l1, l2, l3] s h) ∧
  (∀ (P : Nat × Nat) (l1 : Option Value) (l2 : Option Value) (l3 : Option Value) (a0 : Nat) (s : List Value) (h : am_H), am_E P 81 40 [some (.ref a0), l1, l2, l3] s h = am_E P 81 41 [some (.ref a0), l1, l2, l3] (.ref a0 :: s) h) ∧
  (∀ (P : Nat × Nat) (l1 : Option Value) (l2 : Option Value) (l3 : Option Value) (s : List Value) (h : am_H), am_E P 81 40 [some .null, l1, l2, l3] s h = am_E P 81 41 [some .null, l1, l2, l3] (.null :: s) h) ∧
  (∀ (P : Nat × Nat) (l0 : Option Value) (l1 : Option Value) (l2 : Option Value) (l3 : Option Value) (a0 : Nat) (s : List Value) (h : am_H), am_E P 81 41 [l0, l1, l2, l3] (.ref a0 :: s) h = (am_g1 h a0 9 12).bind (fun v => am_E P 81 44 [l0, l1, l2, l3] (v :: s) h)) ∧
  (∀ (P : Nat × Nat) (l0 : Option Value) (l1 : Option Value) (l2 : Option Value) (x0 : Int32) (s : List Value) (h : am_H), am_E P 81 44 [l0, l1, l2, some (.int x0)] s h = am_E P 81 45 [l0, l1, l2, some (.int x0)] (.int x0 :: s) h) ∧
  (∀ (P : Nat × Nat) (l0 : Option Value) (l1 : Option Value) (l2 : Option Value) (l3 : Option Value) (x0 : Int32) (a0 : Nat) (s : List Value) (h : am_H), am_E P 81 45 [l0, l1, l2, l3] (.int x0 :: .ref a0 :: s) h = (am_iald h a0 x0).bind (fun v => am_E P 81 46 [l0, l1, l2, l3] (.int v :: s) h)) ∧
  (∀ (P : Nat × Nat) (l0 : Option Value) (l1 : Option Value) (l2 : Option Value) (l3 : Option Value) (x0 : Int32) (h : am_H), am_E P 81 46 [l0, l1, l2, l3] [.int x0] h = some (some (.int x0), h)) ∧
  (∀ (P : Nat × Nat) (l0 : Option Value) (l1 : Option Value) (l2 : Option Value) (x0 : Int32) (s : List Value) (h : am_H), am_E P 81 47 [l0, l1, l2, some (.int x0)] s h = am_E P 81 50 [l0, l1, l2, some (.int (x0 + 1))] s h) ∧
  (∀ (P : Nat × Nat) (l0 : Option Value) (l1 : Option Value) (l2 : Option Value) (l3 : Option Value) (s : List Value) (h : am_H), am_E P 81 50 [l0, l1, l2, l3] s h = am_E P 81 2 [l0, l1, l2, l3] s h) ∧
  (∀ (P : Nat × Nat) (l0 : Option Value) (l1 : Option Value) (l2 : Option Value) (l3 : Option Value) (s : List Value) (h : am_H), am_E P 81 53 [l0, l1, l2, l3] s h = am_E P 81 55 [l0, l1, l2, l3] (.int (-6) :: s) h) ∧
  (∀ (P : Nat × Nat) (l0 : Option Value) (l1 : Option Value) (l2 : Option Value) (l3 : Option Value) (x0 : Int32) (h : am_H), am_E P 81 55 [l0, l1, l2, l3] [.int x0] h = some (some (.int x0), h)) :=
  ⟨fun _ _ _ _ _ _ _ => er_go rfl rfl,
  fun _ _ _ _ _ _ _ _ => er_go rfl rfl,
  fun _ _ _ _ _ _ _ => er_go rfl rfl,
  fun _ _ _ _ _ _ => er_go rfl rfl,
  fun _ _ _ _ _ _ _ _ => er_get1 rfl,
  fun _ _ _ _ _ _ _ _ _ => er_ic_ge rfl,
  fun _ _ _ _ _ _ _ => er_go rfl rfl,
  fun _ _ _ _ _ _ => er_go rfl rfl,
  fun _ _ _ _ _ _ _ _ => er_get1 rfl,
  fun _ _ _ _ _ _ _ => er_go rfl rfl,
  fun _ _ _ _ _ _ _ _ _ => er_iald rfl,
  fun _ _ _ _ _ _ _ => er_go rfl rfl,
  fun _ _ _ _ _ _ _ _ _ => er_ic_ne rfl,
  fun _ _ _ _ _ _ _ => er_go rfl rfl,
  fun _ _ _ _ _ _ => er_go rfl rfl,
  fun _ _ _ _ _ _ _ _ => er_get1 rfl,
  fun _ _ _ _ _ _ _ => er_go rfl rfl,
  fun _ _ _ _ _ _ _ _ _ => er_iald rfl,
  fun _ _ _ _ _ _ _ => er_go rfl rfl,
  fun _ _ _ _ _ _ _ _ _ => er_ic_ne rfl,
  fun _ _ _ _ _ _ _ => er_go rfl rfl,
  fun _ _ _ _ _ _ => er_go rfl rfl,
  fun _ _ _ _ _ _ _ _ => er_get1 rfl,
  fun _ _ _ _ _ _ _ => er_go rfl rfl,
  fun _ _ _ _ _ _ _ _ _ => er_iald rfl,
  fun _ _ _ _ _ _ _ => er_go rfl rfl,
  fun _ _ _ _ _ _ _ _ _ => er_ic_ne rfl,
  fun _ _ _ _ _ _ _ => er_go rfl rfl,
  fun _ _ _ _ _ _ => er_go rfl rfl,
  fun _ _ _ _ _ _ _ _ => er_get1 rfl,
  fun _ _ _ _ _ _ _ => er_go rfl rfl,
  fun _ _ _ _ _ _ _ _ _ => er_iald rfl,
  fun _ _ _ _ _ _ _ => er_ret rfl rfl,
  fun _ _ _ _ _ _ _ => er_go rfl rfl,
  fun _ _ _ _ _ _ _ => er_go rfl rfl,
  fun _ _ _ _ _ _ _ => er_go rfl rfl,
  fun _ _ _ _ _ _ _ => er_ret rfl rfl⟩
set_option maxRecDepth 100000 in
theorem hd81_2 : ∀ (P : Nat × Nat) (l0 : Option Value) (l1 : Option Value) (l2 : Option Value) (x0 : Int32) (s : List Value) (h : am_H), am_E P 81 2 [l0, l1, l2, some (.int x0)] s h = am_E P 81 3 [l0, l1, l2, some (.int x0)] (.int x0 :: s) h := fun _ _ _ _ _ _ _ => er_go rfl rfl
set_option maxRecDepth 100000 in
/-- TwoStepOutputsModel.output(I)I -/
theorem r82 : (∀ (P : Nat × Nat) (l0 : Option Value) (x0 : Int32) (s : List Value) (h : am_H), am_E P 82 0 [l0, some (.int x0)] s h = am_E P 82 1 [l0, some (.int x0)] (.int x0 :: s) h) ∧
  (∀ (P : Nat × Nat) (l0 : Option Value) (l1 : Option Value) (s : List Value) (h : am_H), am_E P 82 1 [l0, l1] s h = am_E P 82 2 [l0, l1] (.int 0 :: s) h) ∧
  (∀ (P : Nat × Nat) (l0 : Option Value) (l1 : Option Value) (s : List Value) (h : am_H), am_E P 82 2 [l0, l1] s h = am_E P 82 3 [l0, l1] (.int 1 :: s) h) ∧
  (∀ (P : Nat × Nat) (l0 : Option Value) (l1 : Option Value) (x0 : Int32) (x1 : Int32) (x2 : Int32) (h : am_H), am_E P 82 3 [l0, l1] [.int x2, .int x1, .int x0] h = (am_E P 74 0 [some (.int x0), some (.int x1), some (.int x2)] [] h).bind (fun q => am_E P 82 6 [l0, l1] (q.1.toList ++ []) q.2)) ∧
  (∀ (P : Nat × Nat) (l0 : Option Value) (l1 : Option Value) (x0 : Int32) (s : List Value) (h : am_H), am_E P 82 6 [l0, l1] (.int x0 :: s) h = if x0 = 0 then am_E P 82 12 [l0, l1] s h else am_E P 82 9 [l0, l1] s h) ∧
  (∀ (P : Nat × Nat) (l0 : Option Value) (l1 : Option Value) (s : List Value) (h : am_H), am_E P 82 9 [l0, l1] s h = am_E P 82 11 [l0, l1] (.int (-2) :: s) h) ∧
  (∀ (P : Nat × Nat) (l0 : Option Value) (l1 : Option Value) (x0 : Int32) (h : am_H), am_E P 82 11 [l0, l1] [.int x0] h = some (some (.int x0), h)) ∧
  (∀ (P : Nat × Nat) (l1 : Option Value) (a0 : Nat) (s : List Value) (h : am_H), am_E P 82 12 [some (.ref a0), l1] s h = am_E P 82 13 [some (.ref a0), l1] (.ref a0 :: s) h) ∧
  (∀ (P : Nat × Nat) (l1 : Option Value) (s : List Value) (h : am_H), am_E P 82 12 [some .null, l1] s h = am_E P 82 13 [some .null, l1] (.null :: s) h) ∧
  (∀ (P : Nat × Nat) (l0 : Option Value) (l1 : Option Value) (a0 : Nat) (s : List Value) (h : am_H), am_E P 82 13 [l0, l1] (.ref a0 :: s) h = (am_g1 h a0 9 30).bind (fun v => am_E P 82 16 [l0, l1] (v :: s) h)) ∧
  (∀ (P : Nat × Nat) (l0 : Option Value) (l1 : Option Value) (x0 : Int32) (s : List Value) (h : am_H), am_E P 82 16 [l0, l1] (.int x0 :: s) h = if x0 = 0 then am_E P 82 22 [l0, l1] s h else am_E P 82 19 [l0, l1] s h) ∧
  (∀ (P : Nat × Nat) (l0 : Option Value) (l1 : Option Value) (s : List Value) (h : am_H), am_E P 82 19 [l0, l1] s h = am_E P 82 21 [l0, l1] (.int (-5) :: s) h) ∧
  (∀ (P : Nat × Nat) (l0 : Option Value) (l1 : Option Value) (x0 : Int32) (h : am_H), am_E P 82 21 [l0, l1] [.int x0] h = some (some (.int x0), h)) ∧
  (∀ (P : Nat × Nat) (l1 : Option Value) (a0 : Nat) (s : List Value) (h : am_H), am_E P 82 22 [some (.ref a0), l1] s h = am_E P 82 23 [some (.ref a0), l1] (.ref a0 :: s) h) ∧
  (∀ (P : Nat × Nat) (l1 : Option Value) (s : List Value) (h : am_H), am_E P 82 22 [some .null, l1] s h = am_E P 82 23 [some .null, l1] (.null :: s) h) ∧
  (∀ (P : Nat × Nat) (l0 : Option Value) (l1 : Option Value) (a0 : Nat) (s : List Value) (h : am_H), am_E P 82 23 [l0, l1] (.ref a0 :: s) h = (am_g1 h a0 9 28).bind (fun v => am_E P 82 26 [l0, l1] (v :: s) h)) ∧
  (∀ (P : Nat × Nat) (l0 : Option Value) (l1 : Option Value) (x0 : Int32) (s : List Value) (h : am_H), am_E P 82 26 [l0, l1] (.int x0 :: s) h = if x0 ≤ 0 then am_E P 82 32 [l0, l1] s h else am_E P 82 29 [l0, l1] s h) ∧
  (∀ (P : Nat × Nat) (l0 : Option Value) (l1 : Option Value) (s : List Value) (h : am_H), am_E P 82 29 [l0, l1] s h = am_E P 82 31 [l0, l1] (.int (-3) :: s) h) ∧
  (∀ (P : Nat × Nat) (l0 : Option Value) (l1 : Option Value) (x0 : Int32) (h : am_H), am_E P 82 31 [l0, l1] [.int x0] h = some (some (.int x0), h)) ∧
  (∀ (P : Nat × Nat) (l1 : Option Value) (a0 : Nat) (s : List Value) (h : am_H), am_E P 82 32 [some (.ref a0), l1] s h = am_E P 82 33 [some (.ref a0), l1] (.ref a0 :: s) h) ∧
  (∀ (P : Nat × Nat) (l1 : Option Value) (s : List Value) (h : am_H), am_E P 82 32 [some .null, l1] s h = am_E P 82 33 [some .null, l1] (.null :: s) h) ∧
  (∀ (P : Nat × Nat) (l0 : Option Value) (l1 : Option Value) (a0 : Nat) (s : List Value) (h : am_H), am_E P 82 33 [l0, l1] (.ref a0 :: s) h = (am_g1 h a0 9 0).bind (fun v => am_E P 82 36 [l0, l1] (v :: s) h)) ∧
  (∀ (P : Nat × Nat) (l0 : Option Value) (l1 : Option Value) (s : List Value) (h : am_H), am_E P 82 36 [l0, l1] s h = am_E P 82 37 [l0, l1] (.int 3 :: s) h) ∧
  (∀ (P : Nat × Nat) (l0 : Option Value) (l1 : Option Value) (x0 : Int32) (x1 : Int32) (s : List Value) (h : am_H), am_E P 82 37 [l0, l1] (.int x1 :: .int x0 :: s) h = if x0 = x1 then am_E P 82 40 [l0, l1] s h else am_E P 82 43 [l0, l1] s h) ∧
  (∀ (P : Nat × Nat) (l0 : Option Value) (l1 : Option Value) (s : List Value) (h : am_H), am_E P 82 40 [l0, l1] s h = am_E P 82 42 [l0, l1] (.int (-4) :: s) h) ∧
  (∀ (P : Nat × Nat) (l0 : Option Value) (l1 : Option Value) (x0 : Int32) (h : am_H), am_E P 82 42 [l0, l1] [.int x0] h = some (some (.int x0), h)) ∧
  (∀ (P : Nat × Nat) (l1 : Option Value) (a0 : Nat) (s : List Value) (h : am_H), am_E P 82 43 [some (.ref a0), l1] s h = am_E P 82 44 [some (.ref a0), l1] (.ref a0 :: s) h) ∧
  (∀ (P : Nat × Nat) (l1 : Option Value) (s : List Value) (h : am_H), am_E P 82 43 [some .null, l1] s h = am_E P 82 44 [some .null, l1] (.null :: s) h) ∧
  (∀ (P : Nat × Nat) (l0 : Option Value) (l1 : Option Value) (a0 : Nat) (s : List Value) (h : am_H), am_E P 82 44 [l0, l1] (.ref a0 :: s) h = (am_g1 h a0 9 1).bind (fun v => am_E P 82 47 [l0, l1] (v :: s) h)) ∧
  (∀ (P : Nat × Nat) (l1 : Option Value) (a0 : Nat) (s : List Value) (h : am_H), am_E P 82 47 [some (.ref a0), l1] s h = am_E P 82 48 [some (.ref a0), l1] (.ref a0 :: s) h) ∧
  (∀ (P : Nat × Nat) (l1 : Option Value) (s : List Value) (h : am_H), am_E P 82 47 [some .null, l1] s h = am_E P 82 48 [some .null, l1] (.null :: s) h) ∧
  (∀ (P : Nat × Nat) (l0 : Option Value) (l1 : Option Value) (a0 : Nat) (s : List Value) (h : am_H), am_E P 82 48 [l0, l1] (.ref a0 :: s) h = (am_g1 h a0 9 0).bind (fun v => am_E P 82 51 [l0, l1] (v :: s) h)) ∧
  (∀ (P : Nat × Nat) (l0 : Option Value) (x0 : Int32) (s : List Value) (h : am_H), am_E P 82 51 [l0, some (.int x0)] s h = am_E P 82 52 [l0, some (.int x0)] (.int x0 :: s) h) ∧
  (∀ (P : Nat × Nat) (l0 : Option Value) (l1 : Option Value) (x0 : Int32) (x1 : Int32) (a0 : Nat) (s : List Value) (h : am_H), am_E P 82 52 [l0, l1] (.int x1 :: .int x0 :: .ref a0 :: s) h = (am_iast h a0 x0 x1).bind (fun h => am_E P 82 53 [l0, l1] s h)) ∧
  (∀ (P : Nat × Nat) (l1 : Option Value) (a0 : Nat) (s : List Value) (h : am_H), am_E P 82 53 [some (.ref a0), l1] s h = am_E P 82 54 [some (.ref a0), l1] (.ref a0 :: s) h) ∧
  (∀ (P : Nat × Nat) (l1 : Option Value) (s : List Value) (h : am_H), am_E P 82 53 [some .null, l1] s h = am_E P 82 54 [some .null, l1] (.null :: s) h) ∧
  (∀ (P : Nat × Nat) (l0 : Option Value) (l1 : Option Value) (a0 : Nat) (s : List Value) (h : am_H), am_E P 82 54 [l0, l1] (.ref a0 :: s) h = am_E P 82 55 [l0, l1] (.ref a0 :: .ref a0 :: s) h) ∧
  (∀ (P : Nat × Nat) (l0 : Option Value) (l1 : Option Value) (a0 : Nat) (s : List Value) (h : am_H), am_E P 82 55 [l0, l1] (.ref a0 :: s) h = (am_g1 h a0 9 0).bind (fun v => am_E P 82 58 [l0, l1] (v :: s) h)) ∧
  (∀ (P : Nat × Nat) (l0 : Option Value) (l1 : Option Value) (s : List Value) (h : am_H), am_E P 82 58 [l0, l1] s h = am_E P 82 59 [l0, l1] (.int 1 :: s) h) ∧
  (∀ (P : Nat × Nat) (l0 : Option Value) (l1 : Option Value) (x0 : Int32) (x1 : Int32) (s : List Value) (h : am_H), am_E P 82 59 [l0, l1] (.int x1 :: .int x0 :: s) h = am_E P 82 60 [l0, l1] (.int (x0 + x1) :: s) h) ∧
  (∀ (P : Nat × Nat) (l0 : Option Value) (l1 : Option Value) (a0 : Nat) (x0 : Int32) (s : List Value) (h : am_H), am_E P 82 60 [l0, l1] (.int x0 :: .ref a0 :: s) h = (am_p1 h a0 9 0 (.int x0)).bind (fun h => am_E P 82 63 [l0, l1] s h)) ∧
  (∀ (P : Nat × Nat) (l1 : Option Value) (a0 : Nat) (s : List Value) (h : am_H), am_E P 82 63 [some (.ref a0), l1] s h = am_E P 82 64 [some (.ref a0), l1] (.ref a0 :: s) h) ∧
  (∀ (P : Nat × Nat) (l1 : Option Value) (s : List Value) (h : am_H), am_E P 82 63 [some .null, l1] s h = am_E P 82 64 [some .null, l1] (.null :: s) h) ∧
  (∀ (P : Nat × Nat) (l0 : Option Value) (l1 : Option Value) (a0 : Nat) (s : List Value) (h : am_H), am_E P 82 64 [l0, l1] (.ref a0 :: s) h = (am_g1 h a0 9 0).bind (fun v => am_E P 82 67 [l0, l1] (v :: s) h)) ∧
  (∀ (P : Nat × Nat) (l0 : Option Value) (l1 : Option Value) (s : List Value) (h : am_H), am_E P 82 67 [l0, l1] s h = am_E P 82 68 [l0, l1] (.int 1 :: s) h) ∧
  (∀ (P : Nat × Nat) (l0 : Option Value) (l1 : Option Value) (x0 : Int32) (x1 : Int32) (s : List Value) (h : am_H), am_E P 82 68 [l0, l1] (.int x1 :: .int x0 :: s) h = am_E P 82 69 [l0, l1] (.int (x0 - x1) :: s) h) ∧
  (∀ (P : Nat × Nat) (l0 : Option Value) (l1 : Option Value) (x0 : Int32) (h : am_H), am_E P 82 69 [l0, l1] [.int x0] h = some (some (.int x0), h)) :=
  ⟨fun _ _ _ _ _ => er_go rfl rfl,
  fun _ _ _ _ _ => er_go rfl rfl,
  fun _ _ _ _ _ => er_go rfl rfl,
  fun _ _ _ _ _ _ _ => er_callS rfl rfl rfl,
  fun _ _ _ _ _ _ => er_if_eq rfl,
  fun _ _ _ _ _ => er_go rfl rfl,
  fun _ _ _ _ _ => er_ret rfl rfl,
  fun _ _ _ _ _ => er_go rfl rfl,
  fun _ _ _ _ => er_go rfl rfl,
  fun _ _ _ _ _ _ => er_get1 rfl,
  fun _ _ _ _ _ _ => er_if_eq rfl,
  fun _ _ _ _ _ => er_go rfl rfl,
  fun _ _ _ _ _ => er_ret rfl rfl,
  fun _ _ _ _ _ => er_go rfl rfl,
  fun _ _ _ _ => er_go rfl rfl,
  fun _ _ _ _ _ _ => er_get1 rfl,
  fun _ _ _ _ _ _ => er_if_le rfl,
  fun _ _ _ _ _ => er_go rfl rfl,
  fun _ _ _ _ _ => er_ret rfl rfl,
  fun _ _ _ _ _ => er_go rfl rfl,
  fun _ _ _ _ => er_go rfl rfl,
  fun _ _ _ _ _ _ => er_get1 rfl,
  fun _ _ _ _ _ => er_go rfl rfl,
  fun _ _ _ _ _ _ _ => er_ic_ne rfl,
  fun _ _ _ _ _ => er_go rfl rfl,
  fun _ _ _ _ _ => er_ret rfl rfl,
  fun _ _ _ _ _ => er_go rfl rfl,
  fun _ _ _ _ => er_go rfl rfl,
  fun _ _ _ _ _ _ => er_get1 rfl,
  fun _ _ _ _ _ => er_go rfl rfl,
  fun _ _ _ _ => er_go rfl rfl,
  fun _ _ _ _ _ _ => er_get1 rfl,
  fun _ _ _ _ _ => er_go rfl rfl,
  fun _ _ _ _ _ _ _ _ => er_iast rfl,
  fun _ _ _ _ _ => er_go rfl rfl,
  fun _ _ _ _ => er_go rfl rfl,
  fun _ _ _ _ _ _ => er_go rfl rfl,
  fun _ _ _ _ _ _ => er_get1 rfl,
  fun _ _ _ _ _ => er_go rfl rfl,
  fun _ _ _ _ _ _ _ => er_go rfl rfl,
  fun _ _ _ _ _ _ _ => er_put1 rfl rfl,
  fun _ _ _ _ _ => er_go rfl rfl,
  fun _ _ _ _ => er_go rfl rfl,
  fun _ _ _ _ _ _ => er_get1 rfl,
  fun _ _ _ _ _ => er_go rfl rfl,
  fun _ _ _ _ _ _ _ => er_go rfl rfl,
  fun _ _ _ _ _ => er_ret rfl rfl⟩
set_option maxRecDepth 100000 in
/-- TwoStepOutputsModel.write(III)I -/
theorem r83 : (∀ (P : Nat × Nat) (l1 : Option Value) (l2 : Option Value) (l3 : Option Value) (l4 : Option Value) (a0 : Nat) (s : List Value) (h : am_H), am_E P 83 0 [some (.ref a0), l1, l2, l3, l4] s h = am_E P 83 1 [some (.ref a0), l1, l2, l3, l4] (.ref a0 :: s) h) ∧
  (∀ (P : Nat × Nat) (l1 : Option Value) (l2 : Option Value) (l3 : Option Value) (l4 : Option Value) (s : List Value) (h : am_H), am_E P 83 0 [some .null, l1, l2, l3, l4] s h = am_E P 83 1 [some .null, l1, l2, l3, l4] (.null :: s) h) ∧
  (∀ (P : Nat × Nat) (l0 : Option Value) (l2 : Option Value) (l3 : Option Value) (l4 : Option Value) (x0 : Int32) (s : List Value) (h : am_H), am_E P 83 1 [l0, some (.int x0), l2, l3, l4] s h = am_E P 83 2 [l0, some (.int x0), l2, l3, l4] (.int x0 :: s) h) ∧
  (∀ (P : Nat × Nat) (l0 : Option Value) (l1 : Option Value) (l2 : Option Value) (l3 : Option Value) (l4 : Option Value) (a0 : Nat) (x0 : Int32) (h : am_H), am_E P 83 2 [l0, l1, l2, l3, l4] [.int x0, .ref a0] h = if am_cls h a0 = some 9 then (am_E P 75 0 [some (.ref a0), some (.int x0)] [] h).bind (fun q => am_E P 83 5 [l0, l1, l2, l3, l4] (q.1.toList ++ []) q.2) else none) ∧
  (∀ (P : Nat × Nat) (l0 : Option Value) (l1 : Option Value) (l2 : Option Value) (l3 : Option Value) (l4 : Option Value) (x0 : Int32) (s : List Value) (h : am_H), am_E P 83 5 [l0, l1, l2, l3, l4] (.int x0 :: s) h = if x0 = 0 then am_E P 83 10 [l0, l1, l2, l3, l4] s h else am_E P 83 8 [l0, l1, l2, l3, l4] s h) ∧
  (∀ (P : Nat × Nat) (l0 : Option Value) (l1 : Option Value) (l2 : Option Value) (l3 : Option Value) (l4 : Option Value) (s : List Value) (h : am_H), am_E P 83 8 [l0, l1, l2, l3, l4] s h = am_E P 83 9 [l0, l1, l2, l3, l4] (.int (-1) :: s) h) ∧
  (∀ (P : Nat × Nat) (l0 : Option Value) (l1 : Option Value) (l2 : Option Value) (l3 : Option Value) (l4 : Option Value) (x0 : Int32) (h : am_H), am_E P 83 9 [l0, l1, l2, l3, l4] [.int x0] h = some (some (.int x0), h)) ∧
  (∀ (P : Nat × Nat) (l0 : Option Value) (l1 : Option Value) (l3 : Option Value) (l4 : Option Value) (x0 : Int32) (s : List Value) (h : am_H), am_E P 83 10 [l0, l1, some (.int x0), l3, l4] s h = am_E P 83 11 [l0, l1, some (.int x0), l3, l4] (.int x0 :: s) h) ∧
  (∀ (P : Nat × Nat) (l0 : Option Value) (l1 : Option Value) (l2 : Option Value) (l3 : Option Value) (l4 : Option Value) (s : List Value) (h : am_H), am_E P 83 11 [l0, l1, l2, l3, l4] s h = am_E P 83 12 [l0, l1, l2, l3, l4] (.int 0 :: s) h) ∧
  (∀ (P : Nat × Nat) (l0 : Option Value) (l1 : Option Value) (l2 : Option Value) (l3 : Option Value) (l4 : Option Value) (s : List Value) (h : am_H), am_E P 83 12 [l0, l1, l2, l3, l4] s h = am_E P 83 14 [l0, l1, l2, l3, l4] (.int 9 :: s) h) ∧
  (∀ (P : Nat × Nat) (l0 : Option Value) (l1 : Option Value) (l2 : Option Value) (l3 : Option Value) (l4 : Option Value) (x0 : Int32) (x1 : Int32) (x2 : Int32) (h : am_H), am_E P 83 14 [l0, l1, l2, l3, l4] [.int x2, .int x1, .int x0] h = (am_E P 74 0 [some (.int x0), some (.int x1), some (.int x2)] [] h).bind (fun q => am_E P 83 17 [l0, l1, l2, l3, l4] (q.1.toList ++ []) q.2)) ∧
  (∀ (P : Nat × Nat) (l0 : Option Value) (l1 : Option Value) (l2 : Option Value) (l3 : Option Value) (l4 : Option Value) (x0 : Int32) (s : List Value) (h : am_H), am_E P 83 17 [l0, l1, l2, l3, l4] (.int x0 :: s) h = if x0 = 0 then am_E P 83 23 [l0, l1, l2, l3, l4] s h else am_E P 83 20 [l0, l1, l2, l3, l4] s h) ∧
  (∀ (P : Nat × Nat) (l0 : Option Value) (l1 : Option Value) (l2 : Option Value) (l3 : Option Value) (l4 : Option Value) (s : List Value) (h : am_H), am_E P 83 20 [l0, l1, l2, l3, l4] s h = am_E P 83 22 [l0, l1, l2, l3, l4] (.int (-2) :: s) h) ∧
  (∀ (P : Nat × Nat) (l0 : Option Value) (l1 : Option Value) (l2 : Option Value) (l3 : Option Value) (l4 : Option Value) (x0 : Int32) (h : am_H), am_E P 83 22 [l0, l1, l2, l3, l4] [.int x0] h = some (some (.int x0), h)) ∧
  (∀ (P : Nat × Nat) (l1 : Option Value) (l2 : Option Value) (l3 : Option Value) (l4 : Option Value) (a0 : Nat) (s : List Value) (h : am_H), am_E P 83 23 [some (.ref a0), l1, l2, l3, l4] s h = am_E P 83 24 [some (.ref a0), l1, l2, l3, l4] (.ref a0 :: s) h) ∧
  (∀ (P : Nat × Nat) (l1 : Option Value) (l2 : Option Value) (l3 : Option Value) (l4 : Option Value) (s : List Value) (h : am_H), am_E P 83 23 [some .null, l1, l2, l3, l4] s h = am_E P 83 24 [some .null, l1, l2, l3, l4] (.null :: s) h) ∧
  (∀ (P : Nat × Nat) (l0 : Option Value) (l1 : Option Value) (l2 : Option Value) (l3 : Option Value) (l4 : Option Value) (a0 : Nat) (s : List Value) (h : am_H), am_E P 83 24 [l0, l1, l2, l3, l4] (.ref a0 :: s) h = (am_g1 h a0 9 30).bind (fun v => am_E P 83 27 [l0, l1, l2, l3, l4] (v :: s) h)) ∧
  (∀ (P : Nat × Nat) (l0 : Option Value) (l1 : Option Value) (l2 : Option Value) (l3 : Option Value) (l4 : Option Value) (x0 : Int32) (s : List Value) (h : am_H), am_E P 83 27 [l0, l1, l2, l3, l4] (.int x0 :: s) h = if x0 = 0 then am_E P 83 33 [l0, l1, l2, l3, l4] s h else am_E P 83 30 [l0, l1, l2, l3, l4] s h) ∧
  (∀ (P : Nat × Nat) (l0 : Option Value) (l1 : Option Value) (l2 : Option Value) (l3 : Option Value) (l4 : Option Value) (s : List Value) (h : am_H), am_E P 83 30 [l0, l1, l2, l3, l4] s h = am_E P 83 32 [l0, l1, l2, l3, l4] (.int (-5) :: s) h) ∧
  (∀ (P : Nat × Nat) (l0 : Option Value) (l1 : Option Value) (l2 : Option Value) (l3 : Option Value) (l4 : Option Value) (x0 : Int32) (h : am_H), am_E P 83 32 [l0, l1, l2, l3, l4] [.int x0] h = some (some (.int x0), h)) ∧
  (∀ (P : Nat × Nat) (l1 : Option Value) (l2 : Option Value) (l3 : Option Value) (l4 : Option Value) (a0 : Nat) (s : List Value) (h : am_H), am_E P 83 33 [some (.ref a0), l1, l2, l3, l4] s h = am_E P 83 34 [some (.ref a0), l1, l2, l3, l4] (.ref a0 :: s) h) ∧
  (∀ (P : Nat × Nat) (l1 : Option Value) (l2 : Option Value) (l3 : Option Value) (l4 : Option Value) (s : List Value) (h : am_H), am_E P 83 33 [some .null, l1, l2, l3, l4] s h = am_E P 83 34 [some .null, l1, l2, l3, l4] (.null :: s) h) ∧
  (∀ (P : Nat × Nat) (l0 : Option Value) (l1 : Option Value) (l2 : Option Value) (l3 : Option Value) (l4 : Option Value) (a0 : Nat) (s : List Value) (h : am_H), am_E P 83 34 [l0, l1, l2, l3, l4] (.ref a0 :: s) h = (am_g1 h a0 9 29).bind (fun v => am_E P 83 37 [l0, l1, l2, l3, l4] (v :: s) h)) ∧
  (∀ (P : Nat × Nat) (l0 : Option Value) (l1 : Option Value) (l2 : Option Value) (l3 : Option Value) (l4 : Option Value) (x0 : Int32) (s : List Value) (h : am_H), am_E P 83 37 [l0, l1, l2, l3, l4] (.int x0 :: s) h = if x0 = 0 then am_E P 83 43 [l0, l1, l2, l3, l4] s h else am_E P 83 40 [l0, l1, l2, l3, l4] s h) ∧
  (∀ (P : Nat × Nat) (l0 : Option Value) (l1 : Option Value) (l2 : Option Value) (l3 : Option Value) (l4 : Option Value) (s : List Value) (h : am_H), am_E P 83 40 [l0, l1, l2, l3, l4] s h = am_E P 83 42 [l0, l1, l2, l3, l4] (.int (-3) :: s) h) ∧
  (∀ (P : Nat × Nat) (l0 : Option Value) (l1 : Option Value) (l2 : Option Value) (l3 : Option Value) (l4 : Option Value) (x0 : Int32) (h : am_H), am_E P 83 42 [l0, l1, l2, l3, l4] [.int x0] h = some (some (.int x0), h)) ∧
  (∀ (P : Nat × Nat) (l1 : Option Value) (l2 : Option Value) (l3 : Option Value) (l4 : Option Value) (a0 : Nat) (s : List Value) (h : am_H), am_E P 83 43 [some (.ref a0), l1, l2, l3, l4] s h = am_E P 83 44 [some (.ref a0), l1, l2, l3, l4] (.ref a0 :: s) h) ∧
  (∀ (P : Nat × Nat) (l1 : Option Value) (l2 : Option Value) (l3 : Option Value) (l4 : Option Value) (s : List Value) (h : am_H), am_E P 83 43 [some .null, l1, l2, l3, l4] s h = am_E P 83 44 [some .null, l1, l2, l3, l4] (.null :: s) h) ∧
  (∀ (P : Nat × Nat) (l0 : Option Value) (l1 : Option Value) (l2 : Option Value) (l3 : Option Value) (l4 : Option Value) (a0 : Nat) (s : List Value) (h : am_H), am_E P 83 44 [l0, l1, l2, l3, l4] (.ref a0 :: s) h = (am_g1 h a0 9 2).bind (fun v => am_E P 83 47 [l0, l1, l2, l3, l4] (v :: s) h)) ∧
  (∀ (P : Nat × Nat) (l0 : Option Value) (l2 : Option Value) (l3 : Option Value) (l4 : Option Value) (x0 : Int32) (s : List Value) (h : am_H), am_E P 83 47 [l0, some (.int x0), l2, l3, l4] s h = am_E P 83 48 [l0, some (.int x0), l2, l3, l4] (.int x0 :: s) h) ∧
  (∀ (P : Nat × Nat) (l0 : Option Value) (l1 : Option Value) (l2 : Option Value) (l3 : Option Value) (l4 : Option Value) (x0 : Int32) (a0 : Nat) (s : List Value) (h : am_H), am_E P 83 48 [l0, l1, l2, l3, l4] (.int x0 :: .ref a0 :: s) h = (am_iald h a0 x0).bind (fun v => am_E P 83 49 [l0, l1, l2, l3, l4] (.int v :: s) h)) ∧
  (∀ (P : Nat × Nat) (l0 : Option Value) (l1 : Option Value) (l2 : Option Value) (l3 : Option Value) (l4 : Option Value) (s : List Value) (h : am_H), am_E P 83 49 [l0, l1, l2, l3, l4] s h = am_E P 83 51 [l0, l1, l2, l3, l4] (.int 20 :: s) h) ∧
  (∀ (P : Nat × Nat) (l0 : Option Value) (l1 : Option Value) (l2 : Option Value) (l3 : Option Value) (l4 : Option Value) (x0 : Int32) (x1 : Int32) (s : List Value) (h : am_H), am_E P 83 51 [l0, l1, l2, l3, l4] (.int x1 :: .int x0 :: s) h = if x0 = x1 then am_E P 83 54 [l0, l1, l2, l3, l4] s h else am_E P 83 57 [l0, l1, l2, l3, l4] s h) ∧
  (∀ (P : Nat × Nat) (l0 : Option Value) (l1 : Option Value) (l2 : Option Value) (l3 : Option Value) (l4 : Option Value) (s : List Value) (h : am_H), am_E P 83 54 [l0, l1, l2, l3, l4] s h = am_E P 83 56 [l0, l1, l2, l3, l4] (.int (-4) :: s) h) ∧
  (∀ (P : Nat × Nat) (l0 : Option Value) (l1 : Option Value) (l2 : Option Value) (l3 : Option Value) (l4 : Option Value) (x0 : Int32) (h : am_H), am_E P 83 56 [l0, l1, l2, l3, l4] [.int x0] h = some (some (.int x0), h)) ∧
  (∀ (P : Nat × Nat) (l0 : Option Value) (l1 : Option Value) (l2 : Option Value) (l3 : Option Value) (l4 : Option Value) (s : List Value) (h : am_H), am_E P 83 57 [l0, l1, l2, l3, l4] s h = am_E P 83 59 [l0, l1, l2, l3, l4] (.int 20 :: s) h) ∧
  (∀ (P : Nat × Nat) (l0 : Option Value) (l2 : Option Value) (l3 : Option Value) (l4 : Option Value) (x0 : Int32) (s : List Value) (h : am_H), am_E P 83 59 [l0, some (.int x0), l2, l3, l4] s h = am_E P 83 60 [l0, some (.int x0), l2, l3, l4] (.int x0 :: s) h) ∧
  (∀ (P : Nat × Nat) (l0 : Option Value) (l1 : Option Value) (l2 : Option Value) (l3 : Option Value) (l4 : Option Value) (x0 : Int32) (x1 : Int32) (s : List Value) (h : am_H), am_E P 83 60 [l0, l1, l2, l3, l4] (.int x1 :: .int x0 :: s) h = am_E P 83 61 [l0, l1, l2, l3, l4] (.int (x0 * x1) :: s) h) ∧
  (∀ (P : Nat × Nat) (l1 : Option Value) (l2 : Option Value) (l3 : Option Value) (l4 : Option Value) (a0 : Nat) (s : List Value) (h : am_H), am_E P 83 61 [some (.ref a0), l1, l2, l3, l4] s h = am_E P 83 62 [some (.ref a0), l1, l2, l3, l4] (.ref a0 :: s) h) ∧
  (∀ (P : Nat × Nat) (l1 : Option Value) (l2 : Option Value) (l3 : Option Value) (l4 : Option Value) (s : List Value) (h : am_H), am_E P 83 61 [some .null, l1, l2, l3, l4] s h = am_E P 83 62 [some .null, l1, l2, l3, l4] (.null :: s) h) ∧
  (∀ (P : Nat × Nat) (l0 : Option Value) (l1 : Option Value) (l2 : Option Value) (l3 : Option Value) (l4 : Option Value) (a0 : Nat) (s : List Value) (h : am_H), am_E P 83 62 [l0, l1, l2, l3, l4] (.ref a0 :: s) h = (am_g1 h a0 9 2).bind (fun v => am_E P 83 65 [l0, l1, l2, l3, l4] (v :: s) h)) ∧
  (∀ (P : Nat × Nat) (l0 : Option Value) (l2 : Option Value) (l3 : Option Value) (l4 : Option Value) (x0 : Int32) (s : List Value) (h : am_H), am_E P 83 65 [l0, some (.int x0), l2, l3, l4] s h = am_E P 83 66 [l0, some (.int x0), l2, l3, l4] (.int x0 :: s) h) ∧
  (∀ (P : Nat × Nat) (l0 : Option Value) (l1 : Option Value) (l2 : Option Value) (l3 : Option Value) (l4 : Option Value) (x0 : Int32) (a0 : Nat) (s : List Value) (h : am_H), am_E P 83 66 [l0, l1, l2, l3, l4] (.int x0 :: .ref a0 :: s) h = (am_iald h a0 x0).bind (fun v => am_E P 83 67 [l0, l1, l2, l3, l4] (.int v :: s) h)) ∧
  (∀ (P : Nat × Nat) (l0 : Option Value) (l1 : Option Value) (l2 : Option Value) (l3 : Option Value) (l4 : Option Value) (x0 : Int32) (x1 : Int32) (s : List Value) (h : am_H), am_E P 83 67 [l0, l1, l2, l3, l4] (.int x1 :: .int x0 :: s) h = am_E P 83 68 [l0, l1, l2, l3, l4] (.int (x0 + x1) :: s) h) ∧
  (∀ (P : Nat × Nat) (l0 : Option Value) (l1 : Option Value) (l2 : Option Value) (l3 : Option Value) (l4 : Option Value) (x0 : Int32) (s : List Value) (h : am_H), am_E P 83 68 [l0, l1, l2, l3, l4] (.int x0 :: s) h = am_E P 83 70 [l0, l1, l2, l3, some (.int x0)] s h) ∧
  (∀ (P : Nat × Nat) (l1 : Option Value) (l2 : Option Value) (l3 : Option Value) (l4 : Option Value) (a0 : Nat) (s : List Value) (h : am_H), am_E P 83 70 [some (.ref a0), l1, l2, l3, l4] s h = am_E P 83 71 [some (.ref a0), l1, l2, l3, l4] (.ref a0 :: s) h) ∧
  (∀ (P : Nat × Nat) (l1 : Option Value) (l2 : Option Value) (l3 : Option Value) (l4 : Option Value) (s : List Value) (h : am_H), am_E P 83 70 [some .null, l1, l2, l3, l4] s h = am_E P 83 71 [some .null, l1, l2, l3, l4] (.null :: s) h) ∧
  (∀ (P : Nat × Nat) (l0 : Option Value) (l1 : Option Value) (l2 : Option Value) (l3 : Option Value) (l4 : Option Value) (a0 : Nat) (s : List Value) (h : am_H), am_E P 83 71 [l0, l1, l2, l3, l4] (.ref a0 :: s) h = (am_g1 h a0 9 3).bind (fun v => am_E P 83 74 [l0, l1, l2, l3, l4] (v :: s) h)) ∧
  (∀ (P : Nat × Nat) (l0 : Option Value) (l1 : Option Value) (l2 : Option Value) (l3 : Option Value) (x0 : Int32) (s : List Value) (h : am_H), am_E P 83 74 [l0, l1, l2, l3, some (.int x0)] s h = am_E P 83 76 [l0, l1, l2, l3, some (.int x0)] (.int x0 :: s) h) ∧
  (∀ (P : Nat × Nat) (l0 : Option Value) (l1 : Option Value) (l3 : Option Value) (l4 : Option Value) (x0 : Int32) (s : List Value) (h : am_H), am_E P 83 76 [l0, l1, some (.int x0), l3, l4] s h = am_E P 83 77 [l0, l1, some (.int x0), l3, l4] (.int x0 :: s) h) ∧
  (∀ (P : Nat × Nat) (l0 : Option Value) (l1 : Option Value) (l2 : Option Value) (l3 : Option Value) (l4 : Option Value) (x0 : Int32) (x1 : Int32) (a0 : Nat) (s : List Value) (h : am_H), am_E P 83 77 [l0, l1, l2, l3, l4] (.int x1 :: .int x0 :: .ref a0 :: s) h = (am_iast h a0 x0 x1).bind (fun h => am_E P 83 78 [l0, l1, l2, l3, l4] s h)) ∧
  (∀ (P : Nat × Nat) (l1 : Option Value) (l2 : Option Value) (l3 : Option Value) (l4 : Option Value) (a0 : Nat) (s : List Value) (h : am_H), am_E P 83 78 [some (.ref a0), l1, l2, l3, l4] s h = am_E P 83 79 [some (.ref a0), l1, l2, l3, l4] (.ref a0 :: s) h) ∧
  (∀ (P : Nat × Nat) (l1 : Option Value) (l2 : Option Value) (l3 : Option Value) (l4 : Option Value) (s : List Value) (h : am_H), am_E P 83 78 [some .null, l1, l2, l3, l4] s h = am_E P 83 79 [some .null, l1, l2, l3, l4] (.null :: s) h) ∧
  (∀ (P : Nat × Nat) (l0 : Option Value) (l1 : Option Value) (l2 : Option Value) (l3 : Option Value) (l4 : Option Value) (a0 : Nat) (s : List Value) (h : am_H), am_E P 83 79 [l0, l1, l2, l3, l4] (.ref a0 :: s) h = (am_g1 h a0 9 4).bind (fun v => am_E P 83 82 [l0, l1, l2, l3, l4] (v :: s) h)) ∧
  (∀ (P : Nat × Nat) (l0 : Option Value) (l1 : Option Value) (l2 : Option Value) (l3 : Option Value) (x0 : Int32) (s : List Value) (h : am_H), am_E P 83 82 [l0, l1, l2, l3, some (.int x0)] s h = am_E P 83 84 [l0, l1, l2, l3, some (.int x0)] (.int x0 :: s) h) ∧
  (∀ (P : Nat × Nat) (l0 : Option Value) (l1 : Option Value) (l2 : Option Value) (l4 : Option Value) (x0 : Int32) (s : List Value) (h : am_H), am_E P 83 84 [l0, l1, l2, some (.int x0), l4] s h = am_E P 83 85 [l0, l1, l2, some (.int x0), l4] (.int x0 :: s) h) ∧
  (∀ (P : Nat × Nat) (l0 : Option Value) (l1 : Option Value) (l2 : Option Value) (l3 : Option Value) (l4 : Option Value) (x0 : Int32) (x1 : Int32) (a0 : Nat) (s : List Value) (h : am_H), am_E P 83 85 [l0, l1, l2, l3, l4] (.int x1 :: .int x0 :: .ref a0 :: s) h = (am_iast h a0 x0 x1).bind (fun h => am_E P 83 86 [l0, l1, l2, l3, l4] s h)) ∧
  (∀ (P : Nat × Nat) (l1 : Option Value) (l2 : Option Value) (l3 : Option Value) (l4 : Option Value) (a0 : Nat) (s : List Value) (h : am_H), am_E P 83 86 [some (.ref a0), l1, l2, l3, l4] s h = am_E P 83 87 [some (.ref a0), l1, l2, l3, l4] (.ref a0 :: s) h) ∧
  (∀ (P : Nat × Nat) (l1 : Option Value) (l2 : Option Value) (l3 : Option Value) (l4 : Option Value) (s : List Value) (h : am_H), am_E P 83 86 [some .null, l1, l2, l3, l4] s h = am_E P 83 87 [some .null, l1, l2, l3, l4] (.null :: s) h) ∧
  (∀ (P : Nat × Nat) (l0 : Option Value) (l1 : Option Value) (l2 : Option Value) (l3 : Option Value) (l4 : Option Value) (a0 : Nat) (s : List Value) (h : am_H), am_E P 83 87 [l0, l1, l2, l3, l4] (.ref a0 :: s) h = (am_g1 h a0 9 2).bind (fun v => am_E P 83 90 [l0, l1, l2, l3, l4] (v :: s) h)) ∧
  (∀ (P : Nat × Nat) (l0 : Option Value) (l2 : Option Value) (l3 : Option Value) (l4 : Option Value) (x0 : Int32) (s : List Value) (h : am_H), am_E P 83 90 [l0, some (.int x0), l2, l3, l4] s h = am_E P 83 91 [l0, some (.int x0), l2, l3, l4] (.int x0 :: s) h) ∧
  (∀ (P : Nat × Nat) (l0 : Option Value) (l1 : Option Value) (l2 : Option Value) (l3 : Option Value) (l4 : Option Value) (x0 : Int32) (a0 : Nat) (s : List Value) (h : am_H), am_E P 83 91 [l0, l1, l2, l3, l4] (.int x0 :: .ref a0 :: s) h = am_E P 83 92 [l0, l1, l2, l3, l4] (.int x0 :: .ref a0 :: .int x0 :: .ref a0 :: s) h) ∧
  (∀ (P : Nat × Nat) (l0 : Option Value) (l1 : Option Value) (l2 : Option Value) (l3 : Option Value) (l4 : Option Value) (x0 : Int32) (a0 : Nat) (s : List Value) (h : am_H), am_E P 83 92 [l0, l1, l2, l3, l4] (.int x0 :: .ref a0 :: s) h = (am_iald h a0 x0).bind (fun v => am_E P 83 93 [l0, l1, l2, l3, l4] (.int v :: s) h)) ∧
  (∀ (P : Nat × Nat) (l0 : Option Value) (l1 : Option Value) (l2 : Option Value) (l3 : Option Value) (l4 : Option Value) (s : List Value) (h : am_H), am_E P 83 93 [l0, l1, l2, l3, l4] s h = am_E P 83 94 [l0, l1, l2, l3, l4] (.int 1 :: s) h) ∧
  (∀ (P : Nat × Nat) (l0 : Option Value) (l1 : Option Value) (l2 : Option Value) (l3 : Option Value) (l4 : Option Value) (x0 : Int32) (x1 : Int32) (s : List Value) (h : am_H), am_E P 83 94 [l0, l1, l2, l3, l4] (.int x1 :: .int x0 :: s) h = am_E P 83 95 [l0, l1, l2, l3, l4] (.int (x0 + x1) :: s) h) ∧
  (∀ (P : Nat × Nat) (l0 : Option Value) (l1 : Option Value) (l2 : Option Value) (l3 : Option Value) (l4 : Option Value) (x0 : Int32) (x1 : Int32) (a0 : Nat) (s : List Value) (h : am_H), am_E P 83 95 [l0, l1, l2, l3, l4] (.int x1 :: .int x0 :: .ref a0 :: s) h = (am_iast h a0 x0 x1).bind (fun h => am_E P 83 96 [l0, l1, l2, l3, l4] s h)) ∧
  (∀ (P : Nat × Nat) (l1 : Option Value) (l2 : Option Value) (l3 : Option Value) (l4 : Option Value) (a0 : Nat) (s : List Value) (h : am_H), am_E P 83 96 [some (.ref a0), l1, l2, l3, l4] s h = am_E P 83 97 [some (.ref a0), l1, l2, l3, l4] (.ref a0 :: s) h) ∧
  (∀ (P : Nat × Nat) (l1 : Option Value) (l2 : Option Value) (l3 : Option Value) (l4 : Option Value) (s : List Value) (h : am_H), am_E P 83 96 [some .null, l1, l2, l3, l4] s h = am_E P 83 97 [some .null, l1, l2, l3, l4] (.null :: s) h) ∧
  (∀ (P : Nat × Nat) (l0 : Option Value) (l1 : Option Value) (l2 : Option Value) (l3 : Option Value) (l4 : Option Value) (a0 : Nat) (s : List Value) (h : am_H), am_E P 83 97 [l0, l1, l2, l3, l4] (.ref a0 :: s) h = (am_g1 h a0 9 2).bind (fun v => am_E P 83 100 [l0, l1, l2, l3, l4] (v :: s) h)) ∧
  (∀ (P : Nat × Nat) (l0 : Option Value) (l2 : Option Value) (l3 : Option Value) (l4 : Option Value) (x0 : Int32) (s : List Value) (h : am_H), am_E P 83 100 [l0, some (.int x0), l2, l3, l4] s h = am_E P 83 101 [l0, some (.int x0), l2, l3, l4] (.int x0 :: s) h) ∧
  (∀ (P : Nat × Nat) (l0 : Option Value) (l1 : Option Value) (l2 : Option Value) (l3 : Option Value) (l4 : Option Value) (x0 : Int32) (a0 : Nat) (s : List Value) (h : am_H), am_E P 83 101 [l0, l1, l2, l3, l4] (.int x0 :: .ref a0 :: s) h = (am_iald h a0 x0).bind (fun v => am_E P 83 102 [l0, l1, l2, l3, l4] (.int v :: s) h)) ∧
  (∀ (P : Nat × Nat) (l0 : Option Value) (l1 : Option Value) (l2 : Option Value) (l3 : Option Value) (l4 : Option Value) (x0 : Int32) (h : am_H), am_E P 83 102 [l0, l1, l2, l3, l4] [.int x0] h = some (some (.int x0), h)) :=
  ⟨fun _ _ _ _ _ _ _ _ => er_go rfl rfl,
  fun _ _ _ _ _ _ _ => er_go rfl rfl,
  fun _ _ _ _ _ _ _ _ => er_go rfl rfl,
  fun _ _ _ _ _ _ _ _ _ => er_callV rfl rfl rfl rfl,
  fun _ _ _ _ _ _ _ _ _ => er_if_eq rfl,
  fun _ _ _ _ _ _ _ _ => er_go rfl rfl,
  fun _ _ _ _ _ _ _ _ => er_ret rfl rfl,
  fun _ _ _ _ _ _ _ _ => er_go rfl rfl,
  fun _ _ _ _ _ _ _ _ => er_go rfl rfl,
  fun _ _ _ _ _ _ _ _ => er_go rfl rfl,
  fun _ _ _ _ _ _ _ _ _ _ => er_callS rfl rfl rfl,
  fun _ _ _ _ _ _ _ _ _ => er_if_eq rfl,
  fun _ _ _ _ _ _ _ _ => er_go rfl rfl,
  fun _ _ _ _ _ _ _ _ => er_ret rfl rfl,
  fun _ _ _ _ _ _ _ _ => er_go rfl rfl,
  fun _ _ _ _ _ _ _ => er_go rfl rfl,
  fun _ _ _ _ _ _ _ _ _ => er_get1 rfl,
  fun _ _ _ _ _ _ _ _ _ => er_if_eq rfl,
  fun _ _ _ _ _ _ _ _ => er_go rfl rfl,
  fun _ _ _ _ _ _ _ _ => er_ret rfl rfl,
  fun _ _ _ _ _ _ _ _ => er_go rfl rfl,
  fun _ _ _ _ _ _ _ => er_go rfl rfl,
  fun _ _ _ _ _ _ _ _ _ => er_get1 rfl,
  fun _ _ _ _ _ _ _ _ _ => er_if_eq rfl,
  fun _ _ _ _ _ _ _ _ => er_go rfl rfl,
  fun _ _ _ _ _ _ _ _ => er_ret rfl rfl,
  fun _ _ _ _ _ _ _ _ => er_go rfl rfl,
  fun _ _ _ _ _ _ _ => er_go rfl rfl,
  fun _ _ _ _ _ _ _ _ _ => er_get1 rfl,
  fun _ _ _ _ _ _ _ _ => er_go rfl rfl,
  fun _ _ _ _ _ _ _ _ _ _ => er_iald rfl,
  fun _ _ _ _ _ _ _ _ => er_go rfl rfl,
  fun _ _ _ _ _ _ _ _ _ _ => er_ic_ne rfl,
  fun _ _ _ _ _ _ _ _ => er_go rfl rfl,
  fun _ _ _ _ _ _ _ _ => er_ret rfl rfl,
  fun _ _ _ _ _ _ _ _ => er_go rfl rfl,
  fun _ _ _ _ _ _ _ _ => er_go rfl rfl,
  fun _ _ _ _ _ _ _ _ _ _ => er_go rfl rfl,
  fun _ _ _ _ _ _ _ _ => er_go rfl rfl,
  fun _ _ _ _ _ _ _ => er_go rfl rfl,
  fun _ _ _ _ _ _ _ _ _ => er_get1 rfl,
  fun _ _ _ _ _ _ _ _ => er_go rfl rfl,
  fun _ _ _ _ _ _ _ _ _ _ => er_iald rfl,
  fun _ _ _ _ _ _ _ _ _ _ => er_go rfl rfl,
  fun _ _ _ _ _ _ _ _ _ => er_go rfl rfl,
  fun _ _ _ _ _ _ _ _ => er_go rfl rfl,
  fun _ _ _ _ _ _ _ => er_go rfl rfl,
  fun _ _ _ _ _ _ _ _ _ => er_get1 rfl,
  fun _ _ _ _ _ _ _ _ => er_go rfl rfl,
  fun _ _ _ _ _ _ _ _ => er_go rfl rfl,
  fun _ _ _ _ _ _ _ _ _ _ _ => er_iast rfl,
  fun _ _ _ _ _ _ _ _ => er_go rfl rfl,
  fun _ _ _ _ _ _ _ => er_go rfl rfl,
  fun _ _ _ _ _ _ _ _ _ => er_get1 rfl,
  fun _ _ _ _ _ _ _ _ => er_go rfl rfl,
  fun _ _ _ _ _ _ _ _ => er_go rfl rfl,
  fun _ _ _ _ _ _ _ _ _ _ _ => er_iast rfl,
  fun _ _ _ _ _ _ _ _ => er_go rfl rfl,
  fun _ _ _ _ _ _ _ => er_go rfl rfl,
  fun _ _ _ _ _ _ _ _ _ => er_get1 rfl,
  fun _ _ _ _ _ _ _ _ => er_go rfl rfl,
  fun _ _ _ _ _ _ _ _ _ _ => er_go rfl rfl,
  fun _ _ _ _ _ _ _ _ _ _ => er_iald rfl,
  fun _ _ _ _ _ _ _ _ => er_go rfl rfl,
  fun _ _ _ _ _ _ _ _ _ _ => er_go rfl rfl,
  fun _ _ _ _ _ _ _ _ _ _ _ => er_iast rfl,
  fun _ _ _ _ _ _ _ _ => er_go rfl rfl,
  fun _ _ _ _ _ _ _ => er_go rfl rfl,
  fun _ _ _ _ _ _ _ _ _ => er_get1 rfl,
  fun _ _ _ _ _ _ _ _ => er_go rfl rfl,
  fun _ _ _ _ _ _ _ _ _ _ => er_iald rfl,
  fun _ _ _ _ _ _ _ _ => er_ret rfl rfl⟩
set_option maxRecDepth 100000 in
/-- TwoStepOutputsModel.greatest()I -/
theorem r84 : (∀ (P : Nat × Nat) (a0 : Nat) (s : List Value) (h : am_H), am_E P 84 0 [some (.ref a0)] s h = am_E P 84 1 [some (.ref a0)] (.ref a0 :: s) h) ∧
  (∀ (P : Nat × Nat) (s : List Value) (h : am_H), am_E P 84 0 [some .null] s h = am_E P 84 1 [some .null] (.null :: s) h) ∧
  (∀ (P : Nat × Nat) (l0 : Option Value) (a0 : Nat) (s : List Value) (h : am_H), am_E P 84 1 [l0] (.ref a0 :: s) h = (am_g1 h a0 9 27).bind (fun v => am_E P 84 4 [l0] (v :: s) h)) ∧
  (∀ (P : Nat × Nat) (l0 : Option Value) (x0 : Int32) (s : List Value) (h : am_H), am_E P 84 4 [l0] (.int x0 :: s) h = if x0 ≤ 0 then am_E P 84 28 [l0] s h else am_E P 84 7 [l0] s h) ∧
  (∀ (P : Nat × Nat) (a0 : Nat) (s : List Value) (h : am_H), am_E P 84 7 [some (.ref a0)] s h = am_E P 84 8 [some (.ref a0)] (.ref a0 :: s) h) ∧
  (∀ (P : Nat × Nat) (s : List Value) (h : am_H), am_E P 84 7 [some .null] s h = am_E P 84 8 [some .null] (.null :: s) h) ∧
  (∀ (P : Nat × Nat) (l0 : Option Value) (a0 : Nat) (s : List Value) (h : am_H), am_E P 84 8 [l0] (.ref a0 :: s) h = (am_g1 h a0 9 25).bind (fun v => am_E P 84 11 [l0] (v :: s) h)) ∧
  (∀ (P : Nat × Nat) (a0 : Nat) (s : List Value) (h : am_H), am_E P 84 11 [some (.ref a0)] s h = am_E P 84 12 [some (.ref a0)] (.ref a0 :: s) h) ∧
  (∀ (P : Nat × Nat) (s : List Value) (h : am_H), am_E P 84 11 [some .null] s h = am_E P 84 12 [some .null] (.null :: s) h) ∧
  (∀ (P : Nat × Nat) (l0 : Option Value) (a0 : Nat) (s : List Value) (h : am_H), am_E P 84 12 [l0] (.ref a0 :: s) h = (am_g1 h a0 9 26).bind (fun v => am_E P 84 15 [l0] (v :: s) h)) ∧
  (∀ (P : Nat × Nat) (a0 : Nat) (s : List Value) (h : am_H), am_E P 84 15 [some (.ref a0)] s h = am_E P 84 16 [some (.ref a0)] (.ref a0 :: s) h) ∧
  (∀ (P : Nat × Nat) (s : List Value) (h : am_H), am_E P 84 15 [some .null] s h = am_E P 84 16 [some .null] (.null :: s) h) ∧
  (∀ (P : Nat × Nat) (l0 : Option Value) (a0 : Nat) (s : List Value) (h : am_H), am_E P 84 16 [l0] (.ref a0 :: s) h = (am_g1 h a0 9 27).bind (fun v => am_E P 84 19 [l0] (v :: s) h)) ∧
  (∀ (P : Nat × Nat) (l0 : Option Value) (s : List Value) (h : am_H), am_E P 84 19 [l0] s h = am_E P 84 20 [l0] (.int 1 :: s) h) ∧
  (∀ (P : Nat × Nat) (l0 : Option Value) (x0 : Int32) (x1 : Int32) (s : List Value) (h : am_H), am_E P 84 20 [l0] (.int x1 :: .int x0 :: s) h = am_E P 84 21 [l0] (.int (x0 - x1) :: s) h) ∧
  (∀ (P : Nat × Nat) (l0 : Option Value) (x0 : Int32) (a0 : Nat) (s : List Value) (h : am_H), am_E P 84 21 [l0] (.int x0 :: .ref a0 :: s) h = (am_iald h a0 x0).bind (fun v => am_E P 84 22 [l0] (.int v :: s) h)) ∧
  (∀ (P : Nat × Nat) (l0 : Option Value) (x0 : Int32) (x1 : Int32) (h : am_H), am_E P 84 22 [l0] [.int x1, .int x0] h = (am_E P 72 0 [some (.int x0), some (.int x1)] [] h).bind (fun q => am_E P 84 25 [l0] (q.1.toList ++ []) q.2)) ∧
  (∀ (P : Nat × Nat) (l0 : Option Value) (s : List Value) (h : am_H), am_E P 84 25 [l0] s h = am_E P 84 32 [l0] s h) ∧
  (∀ (P : Nat × Nat) (a0 : Nat) (s : List Value) (h : am_H), am_E P 84 28 [some (.ref a0)] s h = am_E P 84 29 [some (.ref a0)] (.ref a0 :: s) h) ∧
  (∀ (P : Nat × Nat) (s : List Value) (h : am_H), am_E P 84 28 [some .null] s h = am_E P 84 29 [some .null] (.null :: s) h) ∧
  (∀ (P : Nat × Nat) (l0 : Option Value) (a0 : Nat) (s : List Value) (h : am_H), am_E P 84 29 [l0] (.ref a0 :: s) h = (am_g1 h a0 9 25).bind (fun v => am_E P 84 32 [l0] (v :: s) h)) ∧
  (∀ (P : Nat × Nat) (l0 : Option Value) (x0 : Int32) (h : am_H), am_E P 84 32 [l0] [.int x0] h = some (some (.int x0), h)) :=
  ⟨fun _ _ _ _ => er_go rfl rfl,
  fun _ _ _ => er_go rfl rfl,
  fun _ _ _ _ _ => er_get1 rfl,
  fun _ _ _ _ _ => er_if_le rfl,
  fun _ _ _ _ => er_go rfl rfl,
  fun _ _ _ => er_go rfl rfl,
  fun _ _ _ _ _ => er_get1 rfl,
  fun _ _ _ _ => er_go rfl rfl,
  fun _ _ _ => er_go rfl rfl,
  fun _ _ _ _ _ => er_get1 rfl,
  fun _ _ _ _ => er_go rfl rfl,
  fun _ _ _ => er_go rfl rfl,
  fun _ _ _ _ _ => er_get1 rfl,
  fun _ _ _ _ => er_go rfl rfl,
  fun _ _ _ _ _ _ => er_go rfl rfl,
  fun _ _ _ _ _ _ => er_iald rfl,
  fun _ _ _ _ _ => er_callS rfl rfl rfl,
  fun _ _ _ _ => er_go rfl rfl,
  fun _ _ _ _ => er_go rfl rfl,
  fun _ _ _ => er_go rfl rfl,
  fun _ _ _ _ _ => er_get1 rfl,
  fun _ _ _ _ => er_ret rfl rfl⟩
set_option maxRecDepth 100000 in
/-- TwoStepOutputsModel.bars(I)I -/
theorem r85 : (∀ (P : Nat × Nat) (l1 : Option Value) (l2 : Option Value) (l3 : Option Value) (l4 : Option Value) (a0 : Nat) (s : List Value) (h : am_H), am_E P 85 0 [some (.ref a0), l1, l2, l3, l4] s h = am_E P 85 1 [some (.ref a0), l1, l2, l3, l4] (.ref a0 :: s) h) ∧
  (∀ (P : Nat × Nat) (l1 : Option Value) (l2 : Option Value) (l3 : Option Value) (l4 : Option Value) (s : List Value) (h : am_H), am_E P 85 0 [some .null, l1, l2, l3, l4] s h = am_E P 85 1 [some .null, l1, l2, l3, l4] (.null :: s) h) ∧
  (∀ (P : Nat × Nat) (l0 : Option Value) (l1 : Option Value) (l2 : Option Value) (l3 : Option Value) (l4 : Option Value) (a0 : Nat) (h : am_H), am_E P 85 1 [l0, l1, l2, l3, l4] [.ref a0] h = if am_cls h a0 = some 9 then (am_E P 84 0 [some (.ref a0)] [] h).bind (fun q => am_E P 85 4 [l0, l1, l2, l3, l4] (q.1.toList ++ []) q.2) else none) ∧
  (∀ (P : Nat × Nat) (l0 : Option Value) (l1 : Option Value) (l2 : Option Value) (l3 : Option Value) (l4 : Option Value) (x0 : Int32) (s : List Value) (h : am_H), am_E P 85 4 [l0, l1, l2, l3, l4] (.int x0 :: s) h = am_E P 85 5 [l0, l1, some (.int x0), l3, l4] s h) ∧
  (∀ (P : Nat × Nat) (l0 : Option Value) (l2 : Option Value) (l3 : Option Value) (l4 : Option Value) (x0 : Int32) (s : List Value) (h : am_H), am_E P 85 5 [l0, some (.int x0), l2, l3, l4] s h = am_E P 85 6 [l0, some (.int x0), l2, l3, l4] (.int x0 :: s) h) ∧
  (∀ (P : Nat × Nat) (l0 : Option Value) (l1 : Option Value) (l2 : Option Value) (l3 : Option Value) (l4 : Option Value) (s : List Value) (h : am_H), am_E P 85 6 [l0, l1, l2, l3, l4] s h = am_E P 85 7 [l0, l1, l2, l3, l4] (.int 0 :: s) h) ∧
  (∀ (P : Nat × Nat) (l0 : Option Value) (l1 : Option Value) (l2 : Option Value) (l3 : Option Value) (l4 : Option Value) (s : List Value) (h : am_H), am_E P 85 7 [l0, l1, l2, l3, l4] s h = am_E P 85 9 [l0, l1, l2, l3, l4] (.int 1000000 :: s) h) ∧
  (∀ (P : Nat × Nat) (l0 : Option Value) (l1 : Option Value) (l2 : Option Value) (l3 : Option Value) (l4 : Option Value) (x0 : Int32) (x1 : Int32) (x2 : Int32) (h : am_H), am_E P 85 9 [l0, l1, l2, l3, l4] [.int x2, .int x1, .int x0] h = (am_E P 74 0 [some (.int x0), some (.int x1), some (.int x2)] [] h).bind (fun q => am_E P 85 12 [l0, l1, l2, l3, l4] (q.1.toList ++ []) q.2)) ∧
  (∀ (P : Nat × Nat) (l0 : Option Value) (l1 : Option Value) (l2 : Option Value) (l3 : Option Value) (l4 : Option Value) (x0 : Int32) (s : List Value) (h : am_H), am_E P 85 12 [l0, l1, l2, l3, l4] (.int x0 :: s) h = if x0 = 0 then am_E P 85 15 [l0, l1, l2, l3, l4] s h else am_E P 85 26 [l0, l1, l2, l3, l4] s h) ∧
  (∀ (P : Nat × Nat) (l0 : Option Value) (l1 : Option Value) (l3 : Option Value) (l4 : Option Value) (x0 : Int32) (s : List Value) (h : am_H), am_E P 85 15 [l0, l1, some (.int x0), l3, l4] s h = am_E P 85 16 [l0, l1, some (.int x0), l3, l4] (.int x0 :: s) h) ∧
  (∀ (P : Nat × Nat) (l0 : Option Value) (l1 : Option Value) (l2 : Option Value) (l3 : Option Value) (l4 : Option Value) (s : List Value) (h : am_H), am_E P 85 16 [l0, l1, l2, l3, l4] s h = am_E P 85 18 [l0, l1, l2, l3, l4] (.int (-6) :: s) h) ∧
  (∀ (P : Nat × Nat) (l0 : Option Value) (l1 : Option Value) (l2 : Option Value) (l3 : Option Value) (l4 : Option Value) (x0 : Int32) (x1 : Int32) (s : List Value) (h : am_H), am_E P 85 18 [l0, l1, l2, l3, l4] (.int x1 :: .int x0 :: s) h = if x0 = x1 then am_E P 85 29 [l0, l1, l2, l3, l4] s h else am_E P 85 21 [l0, l1, l2, l3, l4] s h) ∧
  (∀ (P : Nat × Nat) (l0 : Option Value) (l2 : Option Value) (l3 : Option Value) (l4 : Option Value) (x0 : Int32) (s : List Value) (h : am_H), am_E P 85 21 [l0, some (.int x0), l2, l3, l4] s h = am_E P 85 22 [l0, some (.int x0), l2, l3, l4] (.int x0 :: s) h) ∧
  (∀ (P : Nat × Nat) (l0 : Option Value) (l1 : Option Value) (l3 : Option Value) (l4 : Option Value) (x0 : Int32) (s : List Value) (h : am_H), am_E P 85 22 [l0, l1, some (.int x0), l3, l4] s h = am_E P 85 23 [l0, l1, some (.int x0), l3, l4] (.int x0 :: s) h) ∧
  (∀ (P : Nat × Nat) (l0 : Option Value) (l1 : Option Value) (l2 : Option Value) (l3 : Option Value) (l4 : Option Value) (x0 : Int32) (x1 : Int32) (s : List Value) (h : am_H), am_E P 85 23 [l0, l1, l2, l3, l4] (.int x1 :: .int x0 :: s) h = if x1 < x0 then am_E P 85 29 [l0, l1, l2, l3, l4] s h else am_E P 85 26 [l0, l1, l2, l3, l4] s h) ∧
  (∀ (P : Nat × Nat) (l0 : Option Value) (l1 : Option Value) (l2 : Option Value) (l3 : Option Value) (l4 : Option Value) (s : List Value) (h : am_H), am_E P 85 26 [l0, l1, l2, l3, l4] s h = am_E P 85 28 [l0, l1, l2, l3, l4] (.int (-2) :: s) h) ∧
  (∀ (P : Nat × Nat) (l0 : Option Value) (l1 : Option Value) (l2 : Option Value) (l3 : Option Value) (l4 : Option Value) (x0 : Int32) (h : am_H), am_E P 85 28 [l0, l1, l2, l3, l4] [.int x0] h = some (some (.int x0), h)) ∧
  (∀ (P : Nat × Nat) (l1 : Option Value) (l2 : Option Value) (l3 : Option Value) (l4 : Option Value) (a0 : Nat) (s : List Value) (h : am_H), am_E P 85 29 [some (.ref a0), l1, l2, l3, l4] s h = am_E P 85 30 [some (.ref a0), l1, l2, l3, l4] (.ref a0 :: s) h) ∧
  (∀ (P : Nat × Nat) (l1 : Option Value) (l2 : Option Value) (l3 : Option Value) (l4 : Option Value) (s : List Value) (h : am_H), am_E P 85 29 [some .null, l1, l2, l3, l4] s h = am_E P 85 30 [some .null, l1, l2, l3, l4] (.null :: s) h) ∧
  (∀ (P : Nat × Nat) (l0 : Option Value) (l1 : Option Value) (l2 : Option Value) (l3 : Option Value) (l4 : Option Value) (a0 : Nat) (s : List Value) (h : am_H), am_E P 85 30 [l0, l1, l2, l3, l4] (.ref a0 :: s) h = (am_g1 h a0 9 30).bind (fun v => am_E P 85 33 [l0, l1, l2, l3, l4] (v :: s) h)) ∧
  (∀ (P : Nat × Nat) (l0 : Option Value) (l1 : Option Value) (l2 : Option Value) (l3 : Option Value) (l4 : Option Value) (x0 : Int32) (s : List Value) (h : am_H), am_E P 85 33 [l0, l1, l2, l3, l4] (.int x0 :: s) h = if x0 = 0 then am_E P 85 39 [l0, l1, l2, l3, l4] s h else am_E P 85 36 [l0, l1, l2, l3, l4] s h) ∧
  (∀ (P : Nat × Nat) (l0 : Option Value) (l1 : Option Value) (l2 : Option Value) (l3 : Option Value) (l4 : Option Value) (s : List Value) (h : am_H), am_E P 85 36 [l0, l1, l2, l3, l4] s h = am_E P 85 38 [l0, l1, l2, l3, l4] (.int (-5) :: s) h) ∧
  (∀ (P : Nat × Nat) (l0 : Option Value) (l1 : Option Value) (l2 : Option Value) (l3 : Option Value) (l4 : Option Value) (x0 : Int32) (h : am_H), am_E P 85 38 [l0, l1, l2, l3, l4] [.int x0] h = some (some (.int x0), h)) ∧
  (∀ (P : Nat × Nat) (l1 : Option Value) (l2 : Option Value) (l3 : Option Value) (l4 : Option Value) (a0 : Nat) (s : List Value) (h : am_H), am_E P 85 39 [some (.ref a0), l1, l2, l3, l4] s h = am_E P 85 40 [some (.ref a0), l1, l2, l3, l4] (.ref a0 :: s) h) ∧
  (∀ (P : Nat × Nat) (l1 : Option Value) (l2 : Option Value) (l3 : Option Value) (l4 : Option Value) (s : List Value) (h : am_H), am_E P 85 39 [some .null, l1, l2, l3, l4] s h = am_E P 85 40 [some .null, l1, l2, l3, l4] (.null :: s) h) ∧
  (∀ (P : Nat × Nat) (l0 : Option Value) (l1 : Option Value) (l2 : Option Value) (l3 : Option Value) (l4 : Option Value) (a0 : Nat) (s : List Value) (h : am_H), am_E P 85 40 [l0, l1, l2, l3, l4] (.ref a0 :: s) h = (am_g1 h a0 9 29).bind (fun v => am_E P 85 43 [l0, l1, l2, l3, l4] (v :: s) h)) ∧
  (∀ (P : Nat × Nat) (l0 : Option Value) (l1 : Option Value) (l2 : Option Value) (l3 : Option Value) (l4 : Option Value) (x0 : Int32) (s : List Value) (h : am_H), am_E P 85 43 [l0, l1, l2, l3, l4] (.int x0 :: s) h = if x0 = 0 then am_E P 85 49 [l0, l1, l2, l3, l4] s h else am_E P 85 46 [l0, l1, l2, l3, l4] s h) ∧
  (∀ (P : Nat × Nat) (l0 : Option Value) (l1 : Option Value) (l2 : Option Value) (l3 : Option Value) (l4 : Option Value) (s : List Value) (h : am_H), am_E P 85 46 [l0, l1, l2, l3, l4] s h = am_E P 85 48 [l0, l1, l2, l3, l4] (.int (-3) :: s) h) ∧
  (∀ (P : Nat × Nat) (l0 : Option Value) (l1 : Option Value) (l2 : Option Value) (l3 : Option Value) (l4 : Option Value) (x0 : Int32) (h : am_H), am_E P 85 48 [l0, l1, l2, l3, l4] [.int x0] h = some (some (.int x0), h)) ∧
  (∀ (P : Nat × Nat) (l0 : Option Value) (l1 : Option Value) (l2 : Option Value) (l3 : Option Value) (l4 : Option Value) (s : List Value) (h : am_H), am_E P 85 49 [l0, l1, l2, l3, l4] s h = am_E P 85 50 [l0, l1, l2, l3, l4] (.int 0 :: s) h) ∧
  (∀ (P : Nat × Nat) (l0 : Option Value) (l1 : Option Value) (l2 : Option Value) (l3 : Option Value) (l4 : Option Value) (x0 : Int32) (s : List Value) (h : am_H), am_E P 85 50 [l0, l1, l2, l3, l4] (.int x0 :: s) h = am_E P 85 51 [l0, l1, l2, some (.int x0), l4] s h) ∧
  (∀ (P : Nat × Nat) (l0 : Option Value) (l1 : Option Value) (l2 : Option Value) (l3 : Option Value) (l4 : Option Value) (s : List Value) (h : am_H), am_E P 85 51 [l0, l1, l2, l3, l4] s h = am_E P 85 52 [l0, l1, l2, l3, l4] (.int 0 :: s) h) ∧
  (∀ (P : Nat × Nat) (l0 : Option Value) (l1 : Option Value) (l2 : Option Value) (l3 : Option Value) (l4 : Option Value) (x0 : Int32) (s : List Value) (h : am_H), am_E P 85 52 [l0, l1, l2, l3, l4] (.int x0 :: s) h = am_E P 85 54 [l0, l1, l2, l3, some (.int x0)] s h) ∧
  (∀ (P : Nat × Nat) (l1 : Option Value) (l2 : Option Value) (l3 : Option Value) (l4 : Option Value) (a0 : Nat) (s : List Value) (h : am_H), am_E P 85 56 [some (.ref a0), l1, l2, l3, l4] s h = am_E P 85 57 [some (.ref a0), l1, l2, l3, l4] (.ref a0 :: s) h) ∧
  (∀ (P : Nat × Nat) (l1 : Option Value) (l2 : Option Value) (l3 : Option Value) (l4 : Option Value) (s : List Value) (h : am_H), am_E P 85 56 [some .null, l1, l2, l3, l4] s h = am_E P 85 57 [some .null, l1, l2, l3, l4] (.null :: s) h) ∧
  (∀ (P : Nat × Nat) (l0 : Option Value) (l1 : Option Value) (l2 : Option Value) (l3 : Option Value) (l4 : Option Value) (a0 : Nat) (s : List Value) (h : am_H), am_E P 85 57 [l0, l1, l2, l3, l4] (.ref a0 :: s) h = (am_g1 h a0 9 0).bind (fun v => am_E P 85 60 [l0, l1, l2, l3, l4] (v :: s) h)) ∧
  (∀ (P : Nat × Nat) (l0 : Option Value) (l1 : Option Value) (l2 : Option Value) (l3 : Option Value) (l4 : Option Value) (x0 : Int32) (x1 : Int32) (s : List Value) (h : am_H), am_E P 85 60 [l0, l1, l2, l3, l4] (.int x1 :: .int x0 :: s) h = if x1 ≤ x0 then am_E P 85 95 [l0, l1, l2, l3, l4] s h else am_E P 85 63 [l0, l1, l2, l3, l4] s h) ∧
  (∀ (P : Nat × Nat) (l0 : Option Value) (l1 : Option Value) (l2 : Option Value) (l4 : Option Value) (x0 : Int32) (s : List Value) (h : am_H), am_E P 85 63 [l0, l1, l2, some (.int x0), l4] s h = am_E P 85 64 [l0, l1, l2, some (.int x0), l4] (.int x0 :: s) h) ∧
  (∀ (P : Nat × Nat) (l1 : Option Value) (l2 : Option Value) (l3 : Option Value) (l4 : Option Value) (a0 : Nat) (s : List Value) (h : am_H), am_E P 85 64 [some (.ref a0), l1, l2, l3, l4] s h = am_E P 85 65 [some (.ref a0), l1, l2, l3, l4] (.ref a0 :: s) h) ∧
  (∀ (P : Nat × Nat) (l1 : Option Value) (l2 : Option Value) (l3 : Option Value) (l4 : Option Value) (s : List Value) (h : am_H), am_E P 85 64 [some .null, l1, l2, l3, l4] s h = am_E P 85 65 [some .null, l1, l2, l3, l4] (.null :: s) h) ∧
  (∀ (P : Nat × Nat) (l0 : Option Value) (l1 : Option Value) (l2 : Option Value) (l3 : Option Value) (l4 : Option Value) (a0 : Nat) (s : List Value) (h : am_H), am_E P 85 65 [l0, l1, l2, l3, l4] (.ref a0 :: s) h = (am_g1 h a0 9 5).bind (fun v => am_E P 85 68 [l0, l1, l2, l3, l4] (v :: s) h)) ∧
  (∀ (P : Nat × Nat) (l0 : Option Value) (l1 : Option Value) (l2 : Option Value) (l3 : Option Value) (x0 : Int32) (s : List Value) (h : am_H), am_E P 85 68 [l0, l1, l2, l3, some (.int x0)] s h = am_E P 85 70 [l0, l1, l2, l3, some (.int x0)] (.int x0 :: s) h) ∧
  (∀ (P : Nat × Nat) (l0 : Option Value) (l1 : Option Value) (l2 : Option Value) (l3 : Option Value) (l4 : Option Value) (x0 : Int32) (a0 : Nat) (s : List Value) (h : am_H), am_E P 85 70 [l0, l1, l2, l3, l4] (.int x0 :: .ref a0 :: s) h = (am_iald h a0 x0).bind (fun v => am_E P 85 71 [l0, l1, l2, l3, l4] (.int v :: s) h)) ∧
  (∀ (P : Nat × Nat) (l1 : Option Value) (l2 : Option Value) (l3 : Option Value) (l4 : Option Value) (a0 : Nat) (s : List Value) (h : am_H), am_E P 85 71 [some (.ref a0), l1, l2, l3, l4] s h = am_E P 85 72 [some (.ref a0), l1, l2, l3, l4] (.ref a0 :: s) h) ∧
  (∀ (P : Nat × Nat) (l1 : Option Value) (l2 : Option Value) (l3 : Option Value) (l4 : Option Value) (s : List Value) (h : am_H), am_E P 85 71 [some .null, l1, l2, l3, l4] s h = am_E P 85 72 [some .null, l1, l2, l3, l4] (.null :: s) h) ∧
  (∀ (P : Nat × Nat) (l0 : Option Value) (l1 : Option Value) (l2 : Option Value) (l3 : Option Value) (l4 : Option Value) (a0 : Nat) (s : List Value) (h : am_H), am_E P 85 72 [l0, l1, l2, l3, l4] (.ref a0 :: s) h = (am_g1 h a0 9 2).bind (fun v => am_E P 85 75 [l0, l1, l2, l3, l4] (v :: s) h)) ∧
  (∀ (P : Nat × Nat) (l0 : Option Value) (l1 : Option Value) (l2 : Option Value) (l3 : Option Value) (x0 : Int32) (s : List Value) (h : am_H), am_E P 85 75 [l0, l1, l2, l3, some (.int x0)] s h = am_E P 85 77 [l0, l1, l2, l3, some (.int x0)] (.int x0 :: s) h) ∧
  (∀ (P : Nat × Nat) (l0 : Option Value) (l1 : Option Value) (l2 : Option Value) (l3 : Option Value) (l4 : Option Value) (x0 : Int32) (a0 : Nat) (s : List Value) (h : am_H), am_E P 85 77 [l0, l1, l2, l3, l4] (.int x0 :: .ref a0 :: s) h = (am_iald h a0 x0).bind (fun v => am_E P 85 78 [l0, l1, l2, l3, l4] (.int v :: s) h)) ∧
  (∀ (P : Nat × Nat) (l0 : Option Value) (l1 : Option Value) (l2 : Option Value) (l3 : Option Value) (l4 : Option Value) (x0 : Int32) (s : List Value) (h : am_H), am_E P 85 78 [l0, l1, l2, l3, l4] (.int x0 :: s) h = if x0 ≤ 0 then am_E P 85 85 [l0, l1, l2, l3, l4] s h else am_E P 85 81 [l0, l1, l2, l3, l4] s h) ∧
  (∀ (P : Nat × Nat) (l0 : Option Value) (l1 : Option Value) (l2 : Option Value) (l3 : Option Value) (l4 : Option Value) (s : List Value) (h : am_H), am_E P 85 81 [l0, l1, l2, l3, l4] s h = am_E P 85 82 [l0, l1, l2, l3, l4] (.int 1 :: s) h) ∧
  (∀ (P : Nat × Nat) (l0 : Option Value) (l1 : Option Value) (l2 : Option Value) (l3 : Option Value) (l4 : Option Value) (s : List Value) (h : am_H), am_E P 85 82 [l0, l1, l2, l3, l4] s h = am_E P 85 86 [l0, l1, l2, l3, l4] s h) ∧
  (∀ (P : Nat × Nat) (l0 : Option Value) (l1 : Option Value) (l2 : Option Value) (l3 : Option Value) (l4 : Option Value) (s : List Value) (h : am_H), am_E P 85 85 [l0, l1, l2, l3, l4] s h = am_E P 85 86 [l0, l1, l2, l3, l4] (.int 0 :: s) h) ∧
  (∀ (P : Nat × Nat) (l0 : Option Value) (l1 : Option Value) (l2 : Option Value) (l3 : Option Value) (l4 : Option Value) (x0 : Int32) (x1 : Int32) (s : List Value) (h : am_H), am_E P 85 86 [l0, l1, l2, l3, l4] (.int x1 :: .int x0 :: s) h = am_E P 85 87 [l0, l1, l2, l3, l4] (.int (x0 + x1) :: s) h) ∧
  (∀ (P : Nat × Nat) (l0 : Option Value) (l1 : Option Value) (l2 : Option Value) (l3 : Option Value) (l4 : Option Value) (x0 : Int32) (x1 : Int32) (s : List Value) (h : am_H), am_E P 85 87 [l0, l1, l2, l3, l4] (.int x1 :: .int x0 :: s) h = am_E P 85 88 [l0, l1, l2, l3, l4] (.int (x0 + x1) :: s) h) ∧
  (∀ (P : Nat × Nat) (l0 : Option Value) (l1 : Option Value) (l2 : Option Value) (l3 : Option Value) (l4 : Option Value) (x0 : Int32) (s : List Value) (h : am_H), am_E P 85 88 [l0, l1, l2, l3, l4] (.int x0 :: s) h = am_E P 85 89 [l0, l1, l2, some (.int x0), l4] s h) ∧
  (∀ (P : Nat × Nat) (l0 : Option Value) (l1 : Option Value) (l2 : Option Value) (l3 : Option Value) (x0 : Int32) (s : List Value) (h : am_H), am_E P 85 89 [l0, l1, l2, l3, some (.int x0)] s h = am_E P 85 92 [l0, l1, l2, l3, some (.int (x0 + 1))] s h) ∧
  (∀ (P : Nat × Nat) (l0 : Option Value) (l1 : Option Value) (l2 : Option Value) (l3 : Option Value) (l4 : Option Value) (s : List Value) (h : am_H), am_E P 85 92 [l0, l1, l2, l3, l4] s h = am_E P 85 54 [l0, l1, l2, l3, l4] s h) ∧
  (∀ (P : Nat × Nat) (l1 : Option Value) (l2 : Option Value) (l3 : Option Value) (l4 : Option Value) (a0 : Nat) (s : List Value) (h : am_H), am_E P 85 95 [some (.ref a0), l1, l2, l3, l4] s h = am_E P 85 96 [some (.ref a0), l1, l2, l3, l4] (.ref a0 :: s) h) ∧
  (∀ (P : Nat × Nat) (l1 : Option Value) (l2 : Option Value) (l3 : Option Value) (l4 : Option Value) (s : List Value) (h : am_H), am_E P 85 95 [some .null, l1, l2, l3, l4] s h = am_E P 85 96 [some .null, l1, l2, l3, l4] (.null :: s) h) ∧
  (∀ (P : Nat × Nat) (l0 : Option Value) (l1 : Option Value) (l2 : Option Value) (l3 : Option Value) (l4 : Option Value) (a0 : Nat) (s : List Value) (h : am_H), am_E P 85 96 [l0, l1, l2, l3, l4] (.ref a0 :: s) h = (am_g1 h a0 9 28).bind (fun v => am_E P 85 99 [l0, l1, l2, l3, l4] (v :: s) h)) ∧
  (∀ (P : Nat × Nat) (l0 : Option Value) (l1 : Option Value) (l2 : Option Value) (l3 : Option Value) (l4 : Option Value) (s : List Value) (h : am_H), am_E P 85 99 [l0, l1, l2, l3, l4] s h = am_E P 85 102 [l0, l1, l2, l3, l4] (.int 200 :: s) h) ∧
  (∀ (P : Nat × Nat) (l0 : Option Value) (l1 : Option Value) (l2 : Option Value) (l3 : Option Value) (l4 : Option Value) (x0 : Int32) (x1 : Int32) (s : List Value) (h : am_H), am_E P 85 102 [l0, l1, l2, l3, l4] (.int x1 :: .int x0 :: s) h = if x0 = x1 then am_E P 85 111 [l0, l1, l2, l3, l4] s h else am_E P 85 105 [l0, l1, l2, l3, l4] s h) ∧
  (∀ (P : Nat × Nat) (l0 : Option Value) (l1 : Option Value) (l2 : Option Value) (l4 : Option Value) (x0 : Int32) (s : List Value) (h : am_H), am_E P 85 105 [l0, l1, l2, some (.int x0), l4] s h = am_E P 85 106 [l0, l1, l2, some (.int x0), l4] (.int x0 :: s) h) ∧
  (∀ (P : Nat × Nat) (l0 : Option Value) (l1 : Option Value) (l2 : Option Value) (l3 : Option Value) (l4 : Option Value) (s : List Value) (h : am_H), am_E P 85 106 [l0, l1, l2, l3, l4] s h = am_E P 85 108 [l0, l1, l2, l3, l4] (.int 100 :: s) h) ∧
  (∀ (P : Nat × Nat) (l0 : Option Value) (l1 : Option Value) (l2 : Option Value) (l3 : Option Value) (l4 : Option Value) (x0 : Int32) (x1 : Int32) (s : List Value) (h : am_H), am_E P 85 108 [l0, l1, l2, l3, l4] (.int x1 :: .int x0 :: s) h = if x0 ≤ x1 then am_E P 85 116 [l0, l1, l2, l3, l4] s h else am_E P 85 111 [l0, l1, l2, l3, l4] s h) ∧
  (∀ (P : Nat × Nat) (l0 : Option Value) (l1 : Option Value) (l2 : Option Value) (l3 : Option Value) (l4 : Option Value) (s : List Value) (h : am_H), am_E P 85 111 [l0, l1, l2, l3, l4] s h = am_E P 85 113 [l0, l1, l2, l3, l4] (.int (-4) :: s) h) ∧
  (∀ (P : Nat × Nat) (l0 : Option Value) (l1 : Option Value) (l2 : Option Value) (l3 : Option Value) (l4 : Option Value) (s : List Value) (h : am_H), am_E P 85 113 [l0, l1, l2, l3, l4] s h = am_E P 85 117 [l0, l1, l2, l3, l4] s h) ∧
  (∀ (P : Nat × Nat) (l0 : Option Value) (l1 : Option Value) (l2 : Option Value) (l3 : Option Value) (l4 : Option Value) (s : List Value) (h : am_H), am_E P 85 116 [l0, l1, l2, l3, l4] s h = am_E P 85 117 [l0, l1, l2, l3, l4] (.int 0 :: s) h) ∧
  (∀ (P : Nat × Nat) (l0 : Option Value) (l1 : Option Value) (l2 : Option Value) (l3 : Option Value) (l4 : Option Value) (x0 : Int32) (h : am_H), am_E P 85 117 [l0, l1, l2, l3, l4] [.int x0] h = some (some (.int x0), h)) :=
  ⟨fun _ _ _ _ _ _ _ _ => er_go rfl rfl,
  fun _ _ _ _ _ _ _ => er_go rfl rfl,
  fun _ _ _ _ _ _ _ _ => er_callV rfl rfl rfl rfl,
  fun _ _ _ _ _ _ _ _ _ => er_go rfl rfl,
  fun _ _ _ _ _ _ _ _ => er_go rfl rfl,
  fun _ _ _ _ _ _ _ _ => er_go rfl rfl,
  fun _ _ _ _ _ _ _ _ => er_go rfl rfl,
  fun _ _ _ _ _ _ _ _ _ _ => er_callS rfl rfl rfl,
  fun _ _ _ _ _ _ _ _ _ => er_if_ne rfl,
  fun _ _ _ _ _ _ _ _ => er_go rfl rfl,
  fun _ _ _ _ _ _ _ _ => er_go rfl rfl,
  fun _ _ _ _ _ _ _ _ _ _ => er_ic_eq rfl,
  fun _ _ _ _ _ _ _ _ => er_go rfl rfl,
  fun _ _ _ _ _ _ _ _ => er_go rfl rfl,
  fun _ _ _ _ _ _ _ _ _ _ => er_ic_gt rfl,
  fun _ _ _ _ _ _ _ _ => er_go rfl rfl,
  fun _ _ _ _ _ _ _ _ => er_ret rfl rfl,
  fun _ _ _ _ _ _ _ _ => er_go rfl rfl,
  fun _ _ _ _ _ _ _ => er_go rfl rfl,
  fun _ _ _ _ _ _ _ _ _ => er_get1 rfl,
  fun _ _ _ _ _ _ _ _ _ => er_if_eq rfl,
  fun _ _ _ _ _ _ _ _ => er_go rfl rfl,
  fun _ _ _ _ _ _ _ _ => er_ret rfl rfl,
  fun _ _ _ _ _ _ _ _ => er_go rfl rfl,
  fun _ _ _ _ _ _ _ => er_go rfl rfl,
  fun _ _ _ _ _ _ _ _ _ => er_get1 rfl,
  fun _ _ _ _ _ _ _ _ _ => er_if_eq rfl,
  fun _ _ _ _ _ _ _ _ => er_go rfl rfl,
  fun _ _ _ _ _ _ _ _ => er_ret rfl rfl,
  fun _ _ _ _ _ _ _ _ => er_go rfl rfl,
  fun _ _ _ _ _ _ _ _ _ => er_go rfl rfl,
  fun _ _ _ _ _ _ _ _ => er_go rfl rfl,
  fun _ _ _ _ _ _ _ _ _ => er_go rfl rfl,
  fun _ _ _ _ _ _ _ _ => er_go rfl rfl,
  fun _ _ _ _ _ _ _ => er_go rfl rfl,
  fun _ _ _ _ _ _ _ _ _ => er_get1 rfl,
  fun _ _ _ _ _ _ _ _ _ _ => er_ic_ge rfl,
  fun _ _ _ _ _ _ _ _ => er_go rfl rfl,
  fun _ _ _ _ _ _ _ _ => er_go rfl rfl,
  fun _ _ _ _ _ _ _ => er_go rfl rfl,
  fun _ _ _ _ _ _ _ _ _ => er_get1 rfl,
  fun _ _ _ _ _ _ _ _ => er_go rfl rfl,
  fun _ _ _ _ _ _ _ _ _ _ => er_iald rfl,
  fun _ _ _ _ _ _ _ _ => er_go rfl rfl,
  fun _ _ _ _ _ _ _ => er_go rfl rfl,
  fun _ _ _ _ _ _ _ _ _ => er_get1 rfl,
  fun _ _ _ _ _ _ _ _ => er_go rfl rfl,
  fun _ _ _ _ _ _ _ _ _ _ => er_iald rfl,
  fun _ _ _ _ _ _ _ _ _ => er_if_le rfl,
  fun _ _ _ _ _ _ _ _ => er_go rfl rfl,
  fun _ _ _ _ _ _ _ _ => er_go rfl rfl,
  fun _ _ _ _ _ _ _ _ => er_go rfl rfl,
  fun _ _ _ _ _ _ _ _ _ _ => er_go rfl rfl,
  fun _ _ _ _ _ _ _ _ _ _ => er_go rfl rfl,
  fun _ _ _ _ _ _ _ _ _ => er_go rfl rfl,
  fun _ _ _ _ _ _ _ _ => er_go rfl rfl,
  fun _ _ _ _ _ _ _ _ => er_go rfl rfl,
  fun _ _ _ _ _ _ _ _ => er_go rfl rfl,
  fun _ _ _ _ _ _ _ => er_go rfl rfl,
  fun _ _ _ _ _ _ _ _ _ => er_get1 rfl,
  fun _ _ _ _ _ _ _ _ => er_go rfl rfl,
  fun _ _ _ _ _ _ _ _ _ _ => er_ic_eq rfl,
  fun _ _ _ _ _ _ _ _ => er_go rfl rfl,
  fun _ _ _ _ _ _ _ _ => er_go rfl rfl,
  fun _ _ _ _ _ _ _ _ _ _ => er_ic_le rfl,
  fun _ _ _ _ _ _ _ _ => er_go rfl rfl,
  fun _ _ _ _ _ _ _ _ => er_go rfl rfl,
  fun _ _ _ _ _ _ _ _ => er_go rfl rfl,
  fun _ _ _ _ _ _ _ _ => er_ret rfl rfl⟩
set_option maxRecDepth 100000 in
theorem hd85_54 : ∀ (P : Nat × Nat) (l0 : Option Value) (l1 : Option Value) (l2 : Option Value) (l3 : Option Value) (x0 : Int32) (s : List Value) (h : am_H), am_E P 85 54 [l0, l1, l2, l3, some (.int x0)] s h = am_E P 85 56 [l0, l1, l2, l3, some (.int x0)] (.int x0 :: s) h := fun _ _ _ _ _ _ _ _ => er_go rfl rfl
set_option maxRecDepth 100000 in
/-- TwoStepOutputsModel.bar(I)I -/
theorem r86 : (∀ (P : Nat × Nat) (l1 : Option Value) (l2 : Option Value) (l3 : Option Value) (l4 : Option Value) (l5 : Option Value) (l6 : Option Value) (a0 : Nat) (s : List Value) (h : am_H), am_E P 86 0 [some (.ref a0), l1, l2, l3, l4, l5, l6] s h = am_E P 86 1 [some (.ref a0), l1, l2, l3, l4, l5, l6] (.ref a0 :: s) h) ∧
  (∀ (P : Nat × Nat) (l1 : Option Value) (l2 : Option Value) (l3 : Option Value) (l4 : Option Value) (l5 : Option Value) (l6 : Option Value) (s : List Value) (h : am_H), am_E P 86 0 [some .null, l1, l2, l3, l4, l5, l6] s h = am_E P 86 1 [some .null, l1, l2, l3, l4, l5, l6] (.null :: s) h) ∧
  (∀ (P : Nat × Nat) (l0 : Option Value) (l1 : Option Value) (l2 : Option Value) (l3 : Option Value) (l4 : Option Value) (l5 : Option Value) (l6 : Option Value) (a0 : Nat) (s : List Value) (h : am_H), am_E P 86 1 [l0, l1, l2, l3, l4, l5, l6] (.ref a0 :: s) h = am_E P 86 2 [l0, l1, l2, l3, l4, l5, l6] (.ref a0 :: .ref a0 :: s) h) ∧
  (∀ (P : Nat × Nat) (l0 : Option Value) (l1 : Option Value) (l2 : Option Value) (l3 : Option Value) (l4 : Option Value) (l5 : Option Value) (l6 : Option Value) (a0 : Nat) (s : List Value) (h : am_H), am_E P 86 2 [l0, l1, l2, l3, l4, l5, l6] (.ref a0 :: s) h = (am_g1 h a0 9 28).bind (fun v => am_E P 86 5 [l0, l1, l2, l3, l4, l5, l6] (v :: s) h)) ∧
  (∀ (P : Nat × Nat) (l0 : Option Value) (l1 : Option Value) (l2 : Option Value) (l3 : Option Value) (l4 : Option Value) (l5 : Option Value) (l6 : Option Value) (s : List Value) (h : am_H), am_E P 86 5 [l0, l1, l2, l3, l4, l5, l6] s h = am_E P 86 6 [l0, l1, l2, l3, l4, l5, l6] (.int 1 :: s) h) ∧
  (∀ (P : Nat × Nat) (l0 : Option Value) (l1 : Option Value) (l2 : Option Value) (l3 : Option Value) (l4 : Option Value) (l5 : Option Value) (l6 : Option Value) (x0 : Int32) (x1 : Int32) (s : List Value) (h : am_H), am_E P 86 6 [l0, l1, l2, l3, l4, l5, l6] (.int x1 :: .int x0 :: s) h = am_E P 86 7 [l0, l1, l2, l3, l4, l5, l6] (.int (x0 + x1) :: s) h) ∧
  (∀ (P : Nat × Nat) (l0 : Option Value) (l1 : Option Value) (l2 : Option Value) (l3 : Option Value) (l4 : Option Value) (l5 : Option Value) (l6 : Option Value) (a0 : Nat) (x0 : Int32) (s : List Value) (h : am_H), am_E P 86 7 [l0, l1, l2, l3, l4, l5, l6] (.int x0 :: .ref a0 :: s) h = (am_p1 h a0 9 28 (.int x0)).bind (fun h => am_E P 86 10 [l0, l1, l2, l3, l4, l5, l6] s h)) ∧
  (∀ (P : Nat × Nat) (l0 : Option Value) (l1 : Option Value) (l2 : Option Value) (l3 : Option Value) (l4 : Option Value) (l5 : Option Value) (l6 : Option Value) (s : List Value) (h : am_H), am_E P 86 10 [l0, l1, l2, l3, l4, l5, l6] s h = am_E P 86 11 [l0, l1, l2, l3, l4, l5, l6] (.int 0 :: s) h) ∧
  (∀ (P : Nat × Nat) (l0 : Option Value) (l1 : Option Value) (l2 : Option Value) (l3 : Option Value) (l4 : Option Value) (l5 : Option Value) (l6 : Option Value) (x0 : Int32) (s : List Value) (h : am_H), am_E P 86 11 [l0, l1, l2, l3, l4, l5, l6] (.int x0 :: s) h = am_E P 86 12 [l0, l1, some (.int x0), l3, l4, l5, l6] s h) ∧
  (∀ (P : Nat × Nat) (l0 : Option Value) (l1 : Option Value) (l2 : Option Value) (l3 : Option Value) (l4 : Option Value) (l5 : Option Value) (l6 : Option Value) (s : List Value) (h : am_H), am_E P 86 12 [l0, l1, l2, l3, l4, l5, l6] s h = am_E P 86 13 [l0, l1, l2, l3, l4, l5, l6] (.int 0 :: s) h) ∧
  (∀ (P : Nat × Nat) (l0 : Option Value) (l1 : Option Value) (l2 : Option Value) (l3 : Option Value) (l4 : Option Value) (l5 : Option Value) (l6 : Option Value) (x0 : Int32) (s : List Value) (h : am_H), am_E P 86 13 [l0, l1, l2, l3, l4, l5, l6] (.int x0 :: s) h = am_E P 86 14 [l0, l1, l2, some (.int x0), l4, l5, l6] s h) ∧
  (∀ (P : Nat × Nat) (l1 : Option Value) (l2 : Option Value) (l3 : Option Value) (l4 : Option Value) (l5 : Option Value) (l6 : Option Value) (a0 : Nat) (s : List Value) (h : am_H), am_E P 86 15 [some (.ref a0), l1, l2, l3, l4, l5, l6] s h = am_E P 86 16 [some (.ref a0), l1, l2, l3, l4, l5, l6] (.ref a0 :: s) h) ∧
  (∀ (P : Nat × Nat) (l1 : Option Value) (l2 : Option Value) (l3 : Option Value) (l4 : Option Value) (l5 : Option Value) (l6 : Option Value) (s : List Value) (h : am_H), am_E P 86 15 [some .null, l1, l2, l3, l4, l5, l6] s h = am_E P 86 16 [some .null, l1, l2, l3, l4, l5, l6] (.null :: s) h) ∧
  (∀ (P : Nat × Nat) (l0 : Option Value) (l1 : Option Value) (l2 : Option Value) (l3 : Option Value) (l4 : Option Value) (l5 : Option Value) (l6 : Option Value) (a0 : Nat) (s : List Value) (h : am_H), am_E P 86 16 [l0, l1, l2, l3, l4, l5, l6] (.ref a0 :: s) h = (am_g1 h a0 9 0).bind (fun v => am_E P 86 19 [l0, l1, l2, l3, l4, l5, l6] (v :: s) h)) ∧
  (∀ (P : Nat × Nat) (l0 : Option Value) (l1 : Option Value) (l2 : Option Value) (l3 : Option Value) (l4 : Option Value) (l5 : Option Value) (l6 : Option Value) (x0 : Int32) (x1 : Int32) (s : List Value) (h : am_H), am_E P 86 19 [l0, l1, l2, l3, l4, l5, l6] (.int x1 :: .int x0 :: s) h = if x1 ≤ x0 then am_E P 86 140 [l0, l1, l2, l3, l4, l5, l6] s h else am_E P 86 22 [l0, l1, l2, l3, l4, l5, l6] s h) ∧
  (∀ (P : Nat × Nat) (l1 : Option Value) (l2 : Option Value) (l3 : Option Value) (l4 : Option Value) (l5 : Option Value) (l6 : Option Value) (a0 : Nat) (s : List Value) (h : am_H), am_E P 86 22 [some (.ref a0), l1, l2, l3, l4, l5, l6] s h = am_E P 86 23 [some (.ref a0), l1, l2, l3, l4, l5, l6] (.ref a0 :: s) h) ∧
  (∀ (P : Nat × Nat) (l1 : Option Value) (l2 : Option Value) (l3 : Option Value) (l4 : Option Value) (l5 : Option Value) (l6 : Option Value) (s : List Value) (h : am_H), am_E P 86 22 [some .null, l1, l2, l3, l4, l5, l6] s h = am_E P 86 23 [some .null, l1, l2, l3, l4, l5, l6] (.null :: s) h) ∧
  (∀ (P : Nat × Nat) (l0 : Option Value) (l1 : Option Value) (l2 : Option Value) (l3 : Option Value) (l4 : Option Value) (l5 : Option Value) (l6 : Option Value) (a0 : Nat) (s : List Value) (h : am_H), am_E P 86 23 [l0, l1, l2, l3, l4, l5, l6] (.ref a0 :: s) h = (am_g1 h a0 9 2).bind (fun v => am_E P 86 26 [l0, l1, l2, l3, l4, l5, l6] (v :: s) h)) ∧
  (∀ (P : Nat × Nat) (l0 : Option Value) (l1 : Option Value) (l2 : Option Value) (l4 : Option Value) (l5 : Option Value) (l6 : Option Value) (x0 : Int32) (s : List Value) (h : am_H), am_E P 86 26 [l0, l1, l2, some (.int x0), l4, l5, l6] s h = am_E P 86 27 [l0, l1, l2, some (.int x0), l4, l5, l6] (.int x0 :: s) h) ∧
  (∀ (P : Nat × Nat) (l0 : Option Value) (l1 : Option Value) (l2 : Option Value) (l3 : Option Value) (l4 : Option Value) (l5 : Option Value) (l6 : Option Value) (x0 : Int32) (a0 : Nat) (s : List Value) (h : am_H), am_E P 86 27 [l0, l1, l2, l3, l4, l5, l6] (.int x0 :: .ref a0 :: s) h = (am_iald h a0 x0).bind (fun v => am_E P 86 28 [l0, l1, l2, l3, l4, l5, l6] (.int v :: s) h)) ∧
  (∀ (P : Nat × Nat) (l0 : Option Value) (l1 : Option Value) (l2 : Option Value) (l3 : Option Value) (l4 : Option Value) (l5 : Option Value) (l6 : Option Value) (x0 : Int32) (s : List Value) (h : am_H), am_E P 86 28 [l0, l1, l2, l3, l4, l5, l6] (.int x0 :: s) h = am_E P 86 30 [l0, l1, l2, l3, some (.int x0), l5, l6] s h) ∧
  (∀ (P : Nat × Nat) (l0 : Option Value) (l1 : Option Value) (l2 : Option Value) (l3 : Option Value) (l5 : Option Value) (l6 : Option Value) (x0 : Int32) (s : List Value) (h : am_H), am_E P 86 30 [l0, l1, l2, l3, some (.int x0), l5, l6] s h = am_E P 86 32 [l0, l1, l2, l3, some (.int x0), l5, l6] (.int x0 :: s) h) ∧
  (∀ (P : Nat × Nat) (l0 : Option Value) (l1 : Option Value) (l2 : Option Value) (l3 : Option Value) (l4 : Option Value) (l5 : Option Value) (l6 : Option Value) (x0 : Int32) (s : List Value) (h : am_H), am_E P 86 32 [l0, l1, l2, l3, l4, l5, l6] (.int x0 :: s) h = if x0 ≤ 0 then am_E P 86 134 [l0, l1, l2, l3, l4, l5, l6] s h else am_E P 86 35 [l0, l1, l2, l3, l4, l5, l6] s h) ∧
  (∀ (P : Nat × Nat) (l1 : Option Value) (l2 : Option Value) (l3 : Option Value) (l4 : Option Value) (l5 : Option Value) (l6 : Option Value) (a0 : Nat) (s : List Value) (h : am_H), am_E P 86 35 [some (.ref a0), l1, l2, l3, l4, l5, l6] s h = am_E P 86 36 [some (.ref a0), l1, l2, l3, l4, l5, l6] (.ref a0 :: s) h) ∧
  (∀ (P : Nat × Nat) (l1 : Option Value) (l2 : Option Value) (l3 : Option Value) (l4 : Option Value) (l5 : Option Value) (l6 : Option Value) (s : List Value) (h : am_H), am_E P 86 35 [some .null, l1, l2, l3, l4, l5, l6] s h = am_E P 86 36 [some .null, l1, l2, l3, l4, l5, l6] (.null :: s) h) ∧
  (∀ (P : Nat × Nat) (l0 : Option Value) (l1 : Option Value) (l2 : Option Value) (l3 : Option Value) (l4 : Option Value) (l5 : Option Value) (l6 : Option Value) (a0 : Nat) (s : List Value) (h : am_H), am_E P 86 36 [l0, l1, l2, l3, l4, l5, l6] (.ref a0 :: s) h = (am_g1 h a0 9 5).bind (fun v => am_E P 86 39 [l0, l1, l2, l3, l4, l5, l6] (v :: s) h)) ∧
  (∀ (P : Nat × Nat) (l0 : Option Value) (l1 : Option Value) (l2 : Option Value) (l4 : Option Value) (l5 : Option Value) (l6 : Option Value) (x0 : Int32) (s : List Value) (h : am_H), am_E P 86 39 [l0, l1, l2, some (.int x0), l4, l5, l6] s h = am_E P 86 40 [l0, l1, l2, some (.int x0), l4, l5, l6] (.int x0 :: s) h) ∧
  (∀ (P : Nat × Nat) (l0 : Option Value) (l1 : Option Value) (l2 : Option Value) (l3 : Option Value) (l4 : Option Value) (l5 : Option Value) (l6 : Option Value) (x0 : Int32) (a0 : Nat) (s : List Value) (h : am_H), am_E P 86 40 [l0, l1, l2, l3, l4, l5, l6] (.int x0 :: .ref a0 :: s) h = (am_iald h a0 x0).bind (fun v => am_E P 86 41 [l0, l1, l2, l3, l4, l5, l6] (.int v :: s) h)) ∧
  (∀ (P : Nat × Nat) (l0 : Option Value) (l1 : Option Value) (l2 : Option Value) (l3 : Option Value) (l4 : Option Value) (l5 : Option Value) (l6 : Option Value) (x0 : Int32) (s : List Value) (h : am_H), am_E P 86 41 [l0, l1, l2, l3, l4, l5, l6] (.int x0 :: s) h = am_E P 86 43 [l0, l1, l2, l3, l4, some (.int x0), l6] s h) ∧
  (∀ (P : Nat × Nat) (l0 : Option Value) (l1 : Option Value) (l2 : Option Value) (l3 : Option Value) (l4 : Option Value) (l5 : Option Value) (l6 : Option Value) (s : List Value) (h : am_H), am_E P 86 43 [l0, l1, l2, l3, l4, l5, l6] s h = am_E P 86 44 [l0, l1, l2, l3, l4, l5, l6] (.int 0 :: s) h) ∧
  (∀ (P : Nat × Nat) (l0 : Option Value) (l1 : Option Value) (l2 : Option Value) (l3 : Option Value) (l4 : Option Value) (l5 : Option Value) (l6 : Option Value) (x0 : Int32) (s : List Value) (h : am_H), am_E P 86 44 [l0, l1, l2, l3, l4, l5, l6] (.int x0 :: s) h = am_E P 86 46 [l0, l1, l2, l3, l4, l5, some (.int x0)] s h) ∧
  (∀ (P : Nat × Nat) (l0 : Option Value) (l1 : Option Value) (l2 : Option Value) (l3 : Option Value) (l5 : Option Value) (l6 : Option Value) (x0 : Int32) (s : List Value) (h : am_H), am_E P 86 48 [l0, l1, l2, l3, some (.int x0), l5, l6] s h = am_E P 86 50 [l0, l1, l2, l3, some (.int x0), l5, l6] (.int x0 :: s) h) ∧
  (∀ (P : Nat × Nat) (l0 : Option Value) (l1 : Option Value) (l2 : Option Value) (l3 : Option Value) (l4 : Option Value) (l5 : Option Value) (l6 : Option Value) (x0 : Int32) (x1 : Int32) (s : List Value) (h : am_H), am_E P 86 50 [l0, l1, l2, l3, l4, l5, l6] (.int x1 :: .int x0 :: s) h = if x1 ≤ x0 then am_E P 86 110 [l0, l1, l2, l3, l4, l5, l6] s h else am_E P 86 53 [l0, l1, l2, l3, l4, l5, l6] s h) ∧
  (∀ (P : Nat × Nat) (l1 : Option Value) (l2 : Option Value) (l3 : Option Value) (l4 : Option Value) (l5 : Option Value) (l6 : Option Value) (a0 : Nat) (s : List Value) (h : am_H), am_E P 86 53 [some (.ref a0), l1, l2, l3, l4, l5, l6] s h = am_E P 86 54 [some (.ref a0), l1, l2, l3, l4, l5, l6] (.ref a0 :: s) h) ∧
  (∀ (P : Nat × Nat) (l1 : Option Value) (l2 : Option Value) (l3 : Option Value) (l4 : Option Value) (l5 : Option Value) (l6 : Option Value) (s : List Value) (h : am_H), am_E P 86 53 [some .null, l1, l2, l3, l4, l5, l6] s h = am_E P 86 54 [some .null, l1, l2, l3, l4, l5, l6] (.null :: s) h) ∧
  (∀ (P : Nat × Nat) (l0 : Option Value) (l1 : Option Value) (l2 : Option Value) (l3 : Option Value) (l4 : Option Value) (l5 : Option Value) (l6 : Option Value) (s : List Value) (h : am_H), am_E P 86 54 [l0, l1, l2, l3, l4, l5, l6] s h = am_E P 86 55 [l0, l1, l2, l3, l4, l5, l6] (.int 0 :: s) h) ∧
  (∀ (P : Nat × Nat) (l0 : Option Value) (l1 : Option Value) (l2 : Option Value) (l4 : Option Value) (l5 : Option Value) (l6 : Option Value) (x0 : Int32) (s : List Value) (h : am_H), am_E P 86 55 [l0, l1, l2, some (.int x0), l4, l5, l6] s h = am_E P 86 56 [l0, l1, l2, some (.int x0), l4, l5, l6] (.int x0 :: s) h) ∧
  (∀ (P : Nat × Nat) (l0 : Option Value) (l1 : Option Value) (l2 : Option Value) (l3 : Option Value) (l4 : Option Value) (l6 : Option Value) (x0 : Int32) (s : List Value) (h : am_H), am_E P 86 56 [l0, l1, l2, l3, l4, some (.int x0), l6] s h = am_E P 86 58 [l0, l1, l2, l3, l4, some (.int x0), l6] (.int x0 :: s) h) ∧
  (∀ (P : Nat × Nat) (l1 : Option Value) (l2 : Option Value) (l3 : Option Value) (l4 : Option Value) (l5 : Option Value) (l6 : Option Value) (a0 : Nat) (s : List Value) (h : am_H), am_E P 86 58 [some (.ref a0), l1, l2, l3, l4, l5, l6] s h = am_E P 86 59 [some (.ref a0), l1, l2, l3, l4, l5, l6] (.ref a0 :: s) h) ∧
  (∀ (P : Nat × Nat) (l1 : Option Value) (l2 : Option Value) (l3 : Option Value) (l4 : Option Value) (l5 : Option Value) (l6 : Option Value) (s : List Value) (h : am_H), am_E P 86 58 [some .null, l1, l2, l3, l4, l5, l6] s h = am_E P 86 59 [some .null, l1, l2, l3, l4, l5, l6] (.null :: s) h) ∧
  (∀ (P : Nat × Nat) (l0 : Option Value) (l1 : Option Value) (l2 : Option Value) (l3 : Option Value) (l4 : Option Value) (l5 : Option Value) (l6 : Option Value) (a0 : Nat) (s : List Value) (h : am_H), am_E P 86 59 [l0, l1, l2, l3, l4, l5, l6] (.ref a0 :: s) h = (am_g1 h a0 9 3).bind (fun v => am_E P 86 62 [l0, l1, l2, l3, l4, l5, l6] (v :: s) h)) ∧
  (∀ (P : Nat × Nat) (l0 : Option Value) (l1 : Option Value) (l2 : Option Value) (l3 : Option Value) (l4 : Option Value) (l5 : Option Value) (l6 : Option Value) (s : List Value) (h : am_H), am_E P 86 62 [l0, l1, l2, l3, l4, l5, l6] s h = am_E P 86 64 [l0, l1, l2, l3, l4, l5, l6] (.int 20 :: s) h) ∧
  (∀ (P : Nat × Nat) (l0 : Option Value) (l1 : Option Value) (l2 : Option Value) (l4 : Option Value) (l5 : Option Value) (l6 : Option Value) (x0 : Int32) (s : List Value) (h : am_H), am_E P 86 64 [l0, l1, l2, some (.int x0), l4, l5, l6] s h = am_E P 86 65 [l0, l1, l2, some (.int x0), l4, l5, l6] (.int x0 :: s) h) ∧
  (∀ (P : Nat × Nat) (l0 : Option Value) (l1 : Option Value) (l2 : Option Value) (l3 : Option Value) (l4 : Option Value) (l5 : Option Value) (l6 : Option Value) (x0 : Int32) (x1 : Int32) (s : List Value) (h : am_H), am_E P 86 65 [l0, l1, l2, l3, l4, l5, l6] (.int x1 :: .int x0 :: s) h = am_E P 86 66 [l0, l1, l2, l3, l4, l5, l6] (.int (x0 * x1) :: s) h) ∧
  (∀ (P : Nat × Nat) (l0 : Option Value) (l1 : Option Value) (l2 : Option Value) (l3 : Option Value) (l4 : Option Value) (l5 : Option Value) (x0 : Int32) (s : List Value) (h : am_H), am_E P 86 66 [l0, l1, l2, l3, l4, l5, some (.int x0)] s h = am_E P 86 68 [l0, l1, l2, l3, l4, l5, some (.int x0)] (.int x0 :: s) h) ∧
  (∀ (P : Nat × Nat) (l0 : Option Value) (l1 : Option Value) (l2 : Option Value) (l3 : Option Value) (l4 : Option Value) (l5 : Option Value) (l6 : Option Value) (x0 : Int32) (x1 : Int32) (s : List Value) (h : am_H), am_E P 86 68 [l0, l1, l2, l3, l4, l5, l6] (.int x1 :: .int x0 :: s) h = am_E P 86 69 [l0, l1, l2, l3, l4, l5, l6] (.int (x0 + x1) :: s) h) ∧
  (∀ (P : Nat × Nat) (l0 : Option Value) (l1 : Option Value) (l2 : Option Value) (l3 : Option Value) (l4 : Option Value) (l5 : Option Value) (l6 : Option Value) (x0 : Int32) (a0 : Nat) (s : List Value) (h : am_H), am_E P 86 69 [l0, l1, l2, l3, l4, l5, l6] (.int x0 :: .ref a0 :: s) h = (am_iald h a0 x0).bind (fun v => am_E P 86 70 [l0, l1, l2, l3, l4, l5, l6] (.int v :: s) h)) ∧
  (∀ (P : Nat × Nat) (l1 : Option Value) (l2 : Option Value) (l3 : Option Value) (l4 : Option Value) (l5 : Option Value) (l6 : Option Value) (a0 : Nat) (s : List Value) (h : am_H), am_E P 86 70 [some (.ref a0), l1, l2, l3, l4, l5, l6] s h = am_E P 86 71 [some (.ref a0), l1, l2, l3, l4, l5, l6] (.ref a0 :: s) h) ∧
  (∀ (P : Nat × Nat) (l1 : Option Value) (l2 : Option Value) (l3 : Option Value) (l4 : Option Value) (l5 : Option Value) (l6 : Option Value) (s : List Value) (h : am_H), am_E P 86 70 [some .null, l1, l2, l3, l4, l5, l6] s h = am_E P 86 71 [some .null, l1, l2, l3, l4, l5, l6] (.null :: s) h) ∧
  (∀ (P : Nat × Nat) (l0 : Option Value) (l1 : Option Value) (l2 : Option Value) (l3 : Option Value) (l4 : Option Value) (l5 : Option Value) (l6 : Option Value) (a0 : Nat) (s : List Value) (h : am_H), am_E P 86 71 [l0, l1, l2, l3, l4, l5, l6] (.ref a0 :: s) h = (am_g1 h a0 9 4).bind (fun v => am_E P 86 74 [l0, l1, l2, l3, l4, l5, l6] (v :: s) h)) ∧
  (∀ (P : Nat × Nat) (l0 : Option Value) (l1 : Option Value) (l2 : Option Value) (l3 : Option Value) (l4 : Option Value) (l5 : Option Value) (l6 : Option Value) (s : List Value) (h : am_H), am_E P 86 74 [l0, l1, l2, l3, l4, l5, l6] s h = am_E P 86 76 [l0, l1, l2, l3, l4, l5, l6] (.int 20 :: s) h) ∧
  (∀ (P : Nat × Nat) (l0 : Option Value) (l1 : Option Value) (l2 : Option Value) (l4 : Option Value) (l5 : Option Value) (l6 : Option Value) (x0 : Int32) (s : List Value) (h : am_H), am_E P 86 76 [l0, l1, l2, some (.int x0), l4, l5, l6] s h = am_E P 86 77 [l0, l1, l2, some (.int x0), l4, l5, l6] (.int x0 :: s) h) ∧
  (∀ (P : Nat × Nat) (l0 : Option Value) (l1 : Option Value) (l2 : Option Value) (l3 : Option Value) (l4 : Option Value) (l5 : Option Value) (l6 : Option Value) (x0 : Int32) (x1 : Int32) (s : List Value) (h : am_H), am_E P 86 77 [l0, l1, l2, l3, l4, l5, l6] (.int x1 :: .int x0 :: s) h = am_E P 86 78 [l0, l1, l2, l3, l4, l5, l6] (.int (x0 * x1) :: s) h) ∧
  (∀ (P : Nat × Nat) (l0 : Option Value) (l1 : Option Value) (l2 : Option Value) (l3 : Option Value) (l4 : Option Value) (l5 : Option Value) (x0 : Int32) (s : List Value) (h : am_H), am_E P 86 78 [l0, l1, l2, l3, l4, l5, some (.int x0)] s h = am_E P 86 80 [l0, l1, l2, l3, l4, l5, some (.int x0)] (.int x0 :: s) h) ∧
  (∀ (P : Nat × Nat) (l0 : Option Value) (l1 : Option Value) (l2 : Option Value) (l3 : Option Value) (l4 : Option Value) (l5 : Option Value) (l6 : Option Value) (x0 : Int32) (x1 : Int32) (s : List Value) (h : am_H), am_E P 86 80 [l0, l1, l2, l3, l4, l5, l6] (.int x1 :: .int x0 :: s) h = am_E P 86 81 [l0, l1, l2, l3, l4, l5, l6] (.int (x0 + x1) :: s) h) ∧
  (∀ (P : Nat × Nat) (l0 : Option Value) (l1 : Option Value) (l2 : Option Value) (l3 : Option Value) (l4 : Option Value) (l5 : Option Value) (l6 : Option Value) (x0 : Int32) (a0 : Nat) (s : List Value) (h : am_H), am_E P 86 81 [l0, l1, l2, l3, l4, l5, l6] (.int x0 :: .ref a0 :: s) h = (am_iald h a0 x0).bind (fun v => am_E P 86 82 [l0, l1, l2, l3, l4, l5, l6] (.int v :: s) h)) ∧
  (∀ (P : Nat × Nat) (l0 : Option Value) (l1 : Option Value) (l2 : Option Value) (l3 : Option Value) (l4 : Option Value) (l5 : Option Value) (l6 : Option Value) (a0 : Nat) (x0 : Int32) (x1 : Int32) (x2 : Int32) (x3 : Int32) (x4 : Int32) (h : am_H), am_E P 86 82 [l0, l1, l2, l3, l4, l5, l6] [.int x4, .int x3, .int x2, .int x1, .int x0, .ref a0] h = if am_cls h a0 = some 9 then (am_E P 78 0 [some (.ref a0), some (.int x0), some (.int x1), some (.int x2), some (.int x3), some (.int x4)] [] h).bind (fun q => am_E P 86 85 [l0, l1, l2, l3, l4, l5, l6] (q.1.toList ++ []) q.2) else none) ∧
  (∀ (P : Nat × Nat) (l0 : Option Value) (l1 : Option Value) (l2 : Option Value) (l3 : Option Value) (l4 : Option Value) (l5 : Option Value) (l6 : Option Value) (x0 : Int32) (s : List Value) (h : am_H), am_E P 86 85 [l0, l1, l2, l3, l4, l5, l6] (.int x0 :: s) h = if x0 = 0 then am_E P 86 88 [l0, l1, l2, l3, l4, l5, l6] s h else am_E P 86 91 [l0, l1, l2, l3, l4, l5, l6] s h) ∧
  (∀ (P : Nat × Nat) (l0 : Option Value) (l1 : Option Value) (l2 : Option Value) (l3 : Option Value) (l4 : Option Value) (l5 : Option Value) (l6 : Option Value) (s : List Value) (h : am_H), am_E P 86 88 [l0, l1, l2, l3, l4, l5, l6] s h = am_E P 86 90 [l0, l1, l2, l3, l4, l5, l6] (.int (-5) :: s) h) ∧
  (∀ (P : Nat × Nat) (l0 : Option Value) (l1 : Option Value) (l2 : Option Value) (l3 : Option Value) (l4 : Option Value) (l5 : Option Value) (l6 : Option Value) (x0 : Int32) (h : am_H), am_E P 86 90 [l0, l1, l2, l3, l4, l5, l6] [.int x0] h = some (some (.int x0), h)) ∧
  (∀ (P : Nat × Nat) (l1 : Option Value) (l2 : Option Value) (l3 : Option Value) (l4 : Option Value) (l5 : Option Value) (l6 : Option Value) (a0 : Nat) (s : List Value) (h : am_H), am_E P 86 91 [some (.ref a0), l1, l2, l3, l4, l5, l6] s h = am_E P 86 92 [some (.ref a0), l1, l2, l3, l4, l5, l6] (.ref a0 :: s) h) ∧
  (∀ (P : Nat × Nat) (l1 : Option Value) (l2 : Option Value) (l3 : Option Value) (l4 : Option Value) (l5 : Option Value) (l6 : Option Value) (s : List Value) (h : am_H), am_E P 86 91 [some .null, l1, l2, l3, l4, l5, l6] s h = am_E P 86 92 [some .null, l1, l2, l3, l4, l5, l6] (.null :: s) h) ∧
  (∀ (P : Nat × Nat) (l0 : Option Value) (l1 : Option Value) (l2 : Option Value) (l3 : Option Value) (l4 : Option Value) (l5 : Option Value) (l6 : Option Value) (a0 : Nat) (s : List Value) (h : am_H), am_E P 86 92 [l0, l1, l2, l3, l4, l5, l6] (.ref a0 :: s) h = (am_g1 h a0 9 5).bind (fun v => am_E P 86 95 [l0, l1, l2, l3, l4, l5, l6] (v :: s) h)) ∧
  (∀ (P : Nat × Nat) (l0 : Option Value) (l1 : Option Value) (l2 : Option Value) (l4 : Option Value) (l5 : Option Value) (l6 : Option Value) (x0 : Int32) (s : List Value) (h : am_H), am_E P 86 95 [l0, l1, l2, some (.int x0), l4, l5, l6] s h = am_E P 86 96 [l0, l1, l2, some (.int x0), l4, l5, l6] (.int x0 :: s) h) ∧
  (∀ (P : Nat × Nat) (l0 : Option Value) (l1 : Option Value) (l2 : Option Value) (l3 : Option Value) (l4 : Option Value) (l6 : Option Value) (x0 : Int32) (s : List Value) (h : am_H), am_E P 86 96 [l0, l1, l2, l3, l4, some (.int x0), l6] s h = am_E P 86 98 [l0, l1, l2, l3, l4, some (.int x0), l6] (.int x0 :: s) h) ∧
  (∀ (P : Nat × Nat) (l0 : Option Value) (l1 : Option Value) (l2 : Option Value) (l3 : Option Value) (l4 : Option Value) (l5 : Option Value) (l6 : Option Value) (s : List Value) (h : am_H), am_E P 86 98 [l0, l1, l2, l3, l4, l5, l6] s h = am_E P 86 99 [l0, l1, l2, l3, l4, l5, l6] (.int 1 :: s) h) ∧
  (∀ (P : Nat × Nat) (l0 : Option Value) (l1 : Option Value) (l2 : Option Value) (l3 : Option Value) (l4 : Option Value) (l5 : Option Value) (l6 : Option Value) (x0 : Int32) (x1 : Int32) (s : List Value) (h : am_H), am_E P 86 99 [l0, l1, l2, l3, l4, l5, l6] (.int x1 :: .int x0 :: s) h = am_E P 86 100 [l0, l1, l2, l3, l4, l5, l6] (.int (x0 + x1) :: s) h) ∧
  (∀ (P : Nat × Nat) (l0 : Option Value) (l1 : Option Value) (l2 : Option Value) (l3 : Option Value) (l4 : Option Value) (l5 : Option Value) (l6 : Option Value) (x0 : Int32) (x1 : Int32) (a0 : Nat) (s : List Value) (h : am_H), am_E P 86 100 [l0, l1, l2, l3, l4, l5, l6] (.int x1 :: .int x0 :: .ref a0 :: s) h = (am_iast h a0 x0 x1).bind (fun h => am_E P 86 101 [l0, l1, l2, l3, l4, l5, l6] s h)) ∧
  (∀ (P : Nat × Nat) (l0 : Option Value) (l1 : Option Value) (l3 : Option Value) (l4 : Option Value) (l5 : Option Value) (l6 : Option Value) (x0 : Int32) (s : List Value) (h : am_H), am_E P 86 101 [l0, l1, some (.int x0), l3, l4, l5, l6] s h = am_E P 86 104 [l0, l1, some (.int (x0 + 1)), l3, l4, l5, l6] s h) ∧
  (∀ (P : Nat × Nat) (l0 : Option Value) (l1 : Option Value) (l2 : Option Value) (l3 : Option Value) (l4 : Option Value) (l5 : Option Value) (x0 : Int32) (s : List Value) (h : am_H), am_E P 86 104 [l0, l1, l2, l3, l4, l5, some (.int x0)] s h = am_E P 86 107 [l0, l1, l2, l3, l4, l5, some (.int (x0 + 1))] s h) ∧
  (∀ (P : Nat × Nat) (l0 : Option Value) (l1 : Option Value) (l2 : Option Value) (l3 : Option Value) (l4 : Option Value) (l5 : Option Value) (l6 : Option Value) (s : List Value) (h : am_H), am_E P 86 107 [l0, l1, l2, l3, l4, l5, l6] s h = am_E P 86 46 [l0, l1, l2, l3, l4, l5, l6] s h) ∧
  (∀ (P : Nat × Nat) (l1 : Option Value) (l2 : Option Value) (l3 : Option Value) (l4 : Option Value) (l5 : Option Value) (l6 : Option Value) (a0 : Nat) (s : List Value) (h : am_H), am_E P 86 110 [some (.ref a0), l1, l2, l3, l4, l5, l6] s h = am_E P 86 111 [some (.ref a0), l1, l2, l3, l4, l5, l6] (.ref a0 :: s) h) ∧
  (∀ (P : Nat × Nat) (l1 : Option Value) (l2 : Option Value) (l3 : Option Value) (l4 : Option Value) (l5 : Option Value) (l6 : Option Value) (s : List Value) (h : am_H), am_E P 86 110 [some .null, l1, l2, l3, l4, l5, l6] s h = am_E P 86 111 [some .null, l1, l2, l3, l4, l5, l6] (.null :: s) h) ∧
  (∀ (P : Nat × Nat) (l0 : Option Value) (l1 : Option Value) (l2 : Option Value) (l3 : Option Value) (l4 : Option Value) (l5 : Option Value) (l6 : Option Value) (s : List Value) (h : am_H), am_E P 86 111 [l0, l1, l2, l3, l4, l5, l6] s h = am_E P 86 112 [l0, l1, l2, l3, l4, l5, l6] (.int 1 :: s) h) ∧
  (∀ (P : Nat × Nat) (l0 : Option Value) (l1 : Option Value) (l2 : Option Value) (l4 : Option Value) (l5 : Option Value) (l6 : Option Value) (x0 : Int32) (s : List Value) (h : am_H), am_E P 86 112 [l0, l1, l2, some (.int x0), l4, l5, l6] s h = am_E P 86 113 [l0, l1, l2, some (.int x0), l4, l5, l6] (.int x0 :: s) h) ∧
  (∀ (P : Nat × Nat) (l0 : Option Value) (l1 : Option Value) (l2 : Option Value) (l3 : Option Value) (l4 : Option Value) (l6 : Option Value) (x0 : Int32) (s : List Value) (h : am_H), am_E P 86 113 [l0, l1, l2, l3, l4, some (.int x0), l6] s h = am_E P 86 115 [l0, l1, l2, l3, l4, some (.int x0), l6] (.int x0 :: s) h) ∧
  (∀ (P : Nat × Nat) (l0 : Option Value) (l2 : Option Value) (l3 : Option Value) (l4 : Option Value) (l5 : Option Value) (l6 : Option Value) (x0 : Int32) (s : List Value) (h : am_H), am_E P 86 115 [l0, some (.int x0), l2, l3, l4, l5, l6] s h = am_E P 86 116 [l0, some (.int x0), l2, l3, l4, l5, l6] (.int x0 :: s) h) ∧
  (∀ (P : Nat × Nat) (l0 : Option Value) (l1 : Option Value) (l2 : Option Value) (l3 : Option Value) (l4 : Option Value) (l5 : Option Value) (l6 : Option Value) (s : List Value) (h : am_H), am_E P 86 116 [l0, l1, l2, l3, l4, l5, l6] s h = am_E P 86 118 [l0, l1, l2, l3, l4, l5, l6] (.int (-6) :: s) h) ∧
  (∀ (P : Nat × Nat) (l0 : Option Value) (l1 : Option Value) (l2 : Option Value) (l3 : Option Value) (l4 : Option Value) (l5 : Option Value) (l6 : Option Value) (a0 : Nat) (x0 : Int32) (x1 : Int32) (x2 : Int32) (x3 : Int32) (x4 : Int32) (h : am_H), am_E P 86 118 [l0, l1, l2, l3, l4, l5, l6] [.int x4, .int x3, .int x2, .int x1, .int x0, .ref a0] h = if am_cls h a0 = some 9 then (am_E P 78 0 [some (.ref a0), some (.int x0), some (.int x1), some (.int x2), some (.int x3), some (.int x4)] [] h).bind (fun q => am_E P 86 121 [l0, l1, l2, l3, l4, l5, l6] (q.1.toList ++ []) q.2) else none) ∧
  (∀ (P : Nat × Nat) (l0 : Option Value) (l1 : Option Value) (l2 : Option Value) (l3 : Option Value) (l4 : Option Value) (l5 : Option Value) (l6 : Option Value) (x0 : Int32) (s : List Value) (h : am_H), am_E P 86 121 [l0, l1, l2, l3, l4, l5, l6] (.int x0 :: s) h = if x0 = 0 then am_E P 86 124 [l0, l1, l2, l3, l4, l5, l6] s h else am_E P 86 127 [l0, l1, l2, l3, l4, l5, l6] s h) ∧
  (∀ (P : Nat × Nat) (l0 : Option Value) (l1 : Option Value) (l2 : Option Value) (l3 : Option Value) (l4 : Option Value) (l5 : Option Value) (l6 : Option Value) (s : List Value) (h : am_H), am_E P 86 124 [l0, l1, l2, l3, l4, l5, l6] s h = am_E P 86 126 [l0, l1, l2, l3, l4, l5, l6] (.int (-5) :: s) h) ∧
  (∀ (P : Nat × Nat) (l0 : Option Value) (l1 : Option Value) (l2 : Option Value) (l3 : Option Value) (l4 : Option Value) (l5 : Option Value) (l6 : Option Value) (x0 : Int32) (h : am_H), am_E P 86 126 [l0, l1, l2, l3, l4, l5, l6] [.int x0] h = some (some (.int x0), h)) ∧
  (∀ (P : Nat × Nat) (l1 : Option Value) (l2 : Option Value) (l3 : Option Value) (l4 : Option Value) (l5 : Option Value) (l6 : Option Value) (a0 : Nat) (s : List Value) (h : am_H), am_E P 86 127 [some (.ref a0), l1, l2, l3, l4, l5, l6] s h = am_E P 86 128 [some (.ref a0), l1, l2, l3, l4, l5, l6] (.ref a0 :: s) h) ∧
  (∀ (P : Nat × Nat) (l1 : Option Value) (l2 : Option Value) (l3 : Option Value) (l4 : Option Value) (l5 : Option Value) (l6 : Option Value) (s : List Value) (h : am_H), am_E P 86 127 [some .null, l1, l2, l3, l4, l5, l6] s h = am_E P 86 128 [some .null, l1, l2, l3, l4, l5, l6] (.null :: s) h) ∧
  (∀ (P : Nat × Nat) (l0 : Option Value) (l1 : Option Value) (l2 : Option Value) (l3 : Option Value) (l4 : Option Value) (l5 : Option Value) (l6 : Option Value) (a0 : Nat) (s : List Value) (h : am_H), am_E P 86 128 [l0, l1, l2, l3, l4, l5, l6] (.ref a0 :: s) h = (am_g1 h a0 9 2).bind (fun v => am_E P 86 131 [l0, l1, l2, l3, l4, l5, l6] (v :: s) h)) ∧
  (∀ (P : Nat × Nat) (l0 : Option Value) (l1 : Option Value) (l2 : Option Value) (l4 : Option Value) (l5 : Option Value) (l6 : Option Value) (x0 : Int32) (s : List Value) (h : am_H), am_E P 86 131 [l0, l1, l2, some (.int x0), l4, l5, l6] s h = am_E P 86 132 [l0, l1, l2, some (.int x0), l4, l5, l6] (.int x0 :: s) h) ∧
  (∀ (P : Nat × Nat) (l0 : Option Value) (l1 : Option Value) (l2 : Option Value) (l3 : Option Value) (l4 : Option Value) (l5 : Option Value) (l6 : Option Value) (s : List Value) (h : am_H), am_E P 86 132 [l0, l1, l2, l3, l4, l5, l6] s h = am_E P 86 133 [l0, l1, l2, l3, l4, l5, l6] (.int 0 :: s) h) ∧
  (∀ (P : Nat × Nat) (l0 : Option Value) (l1 : Option Value) (l2 : Option Value) (l3 : Option Value) (l4 : Option Value) (l5 : Option Value) (l6 : Option Value) (x0 : Int32) (x1 : Int32) (a0 : Nat) (s : List Value) (h : am_H), am_E P 86 133 [l0, l1, l2, l3, l4, l5, l6] (.int x1 :: .int x0 :: .ref a0 :: s) h = (am_iast h a0 x0 x1).bind (fun h => am_E P 86 134 [l0, l1, l2, l3, l4, l5, l6] s h)) ∧
  (∀ (P : Nat × Nat) (l0 : Option Value) (l1 : Option Value) (l2 : Option Value) (l4 : Option Value) (l5 : Option Value) (l6 : Option Value) (x0 : Int32) (s : List Value) (h : am_H), am_E P 86 134 [l0, l1, l2, some (.int x0), l4, l5, l6] s h = am_E P 86 137 [l0, l1, l2, some (.int (x0 + 1)), l4, l5, l6] s h) ∧
  (∀ (P : Nat × Nat) (l0 : Option Value) (l1 : Option Value) (l2 : Option Value) (l3 : Option Value) (l4 : Option Value) (l5 : Option Value) (l6 : Option Value) (s : List Value) (h : am_H), am_E P 86 137 [l0, l1, l2, l3, l4, l5, l6] s h = am_E P 86 14 [l0, l1, l2, l3, l4, l5, l6] s h) ∧
  (∀ (P : Nat × Nat) (l1 : Option Value) (l2 : Option Value) (l3 : Option Value) (l4 : Option Value) (l5 : Option Value) (l6 : Option Value) (a0 : Nat) (s : List Value) (h : am_H), am_E P 86 140 [some (.ref a0), l1, l2, l3, l4, l5, l6] s h = am_E P 86 141 [some (.ref a0), l1, l2, l3, l4, l5, l6] (.ref a0 :: s) h) ∧
  (∀ (P : Nat × Nat) (l1 : Option Value) (l2 : Option Value) (l3 : Option Value) (l4 : Option Value) (l5 : Option Value) (l6 : Option Value) (s : List Value) (h : am_H), am_E P 86 140 [some .null, l1, l2, l3, l4, l5, l6] s h = am_E P 86 141 [some .null, l1, l2, l3, l4, l5, l6] (.null :: s) h) ∧
  (∀ (P : Nat × Nat) (l0 : Option Value) (l1 : Option Value) (l2 : Option Value) (l3 : Option Value) (l4 : Option Value) (l5 : Option Value) (l6 : Option Value) (a0 : Nat) (s : List Value) (h : am_H), am_E P 86 141 [l0, l1, l2, l3, l4, l5, l6] (.ref a0 :: s) h = (am_g1 h a0 9 26).bind (fun v => am_E P 86 144 [l0, l1, l2, l3, l4, l5, l6] (v :: s) h)) ∧
  (∀ (P : Nat × Nat) (l1 : Option Value) (l2 : Option Value) (l3 : Option Value) (l4 : Option Value) (l5 : Option Value) (l6 : Option Value) (a0 : Nat) (s : List Value) (h : am_H), am_E P 86 144 [some (.ref a0), l1, l2, l3, l4, l5, l6] s h = am_E P 86 145 [some (.ref a0), l1, l2, l3, l4, l5, l6] (.ref a0 :: s) h) ∧
  (∀ (P : Nat × Nat) (l1 : Option Value) (l2 : Option Value) (l3 : Option Value) (l4 : Option Value) (l5 : Option Value) (l6 : Option Value) (s : List Value) (h : am_H), am_E P 86 144 [some .null, l1, l2, l3, l4, l5, l6] s h = am_E P 86 145 [some .null, l1, l2, l3, l4, l5, l6] (.null :: s) h) ∧
  (∀ (P : Nat × Nat) (l0 : Option Value) (l1 : Option Value) (l2 : Option Value) (l3 : Option Value) (l4 : Option Value) (l5 : Option Value) (l6 : Option Value) (a0 : Nat) (s : List Value) (h : am_H), am_E P 86 145 [l0, l1, l2, l3, l4, l5, l6] (.ref a0 :: s) h = (am_g1 h a0 9 27).bind (fun v => am_E P 86 148 [l0, l1, l2, l3, l4, l5, l6] (v :: s) h)) ∧
  (∀ (P : Nat × Nat) (l0 : Option Value) (l2 : Option Value) (l3 : Option Value) (l4 : Option Value) (l5 : Option Value) (l6 : Option Value) (x0 : Int32) (s : List Value) (h : am_H), am_E P 86 148 [l0, some (.int x0), l2, l3, l4, l5, l6] s h = am_E P 86 149 [l0, some (.int x0), l2, l3, l4, l5, l6] (.int x0 :: s) h) ∧
  (∀ (P : Nat × Nat) (l0 : Option Value) (l1 : Option Value) (l2 : Option Value) (l3 : Option Value) (l4 : Option Value) (l5 : Option Value) (l6 : Option Value) (x0 : Int32) (x1 : Int32) (a0 : Nat) (s : List Value) (h : am_H), am_E P 86 149 [l0, l1, l2, l3, l4, l5, l6] (.int x1 :: .int x0 :: .ref a0 :: s) h = (am_iast h a0 x0 x1).bind (fun h => am_E P 86 150 [l0, l1, l2, l3, l4, l5, l6] s h)) ∧
  (∀ (P : Nat × Nat) (l1 : Option Value) (l2 : Option Value) (l3 : Option Value) (l4 : Option Value) (l5 : Option Value) (l6 : Option Value) (a0 : Nat) (s : List Value) (h : am_H), am_E P 86 150 [some (.ref a0), l1, l2, l3, l4, l5, l6] s h = am_E P 86 151 [some (.ref a0), l1, l2, l3, l4, l5, l6] (.ref a0 :: s) h) ∧
  (∀ (P : Nat × Nat) (l1 : Option Value) (l2 : Option Value) (l3 : Option Value) (l4 : Option Value) (l5 : Option Value) (l6 : Option Value) (s : List Value) (h : am_H), am_E P 86 150 [some .null, l1, l2, l3, l4, l5, l6] s h = am_E P 86 151 [some .null, l1, l2, l3, l4, l5, l6] (.null :: s) h) ∧
  (∀ (P : Nat × Nat) (l0 : Option Value) (l1 : Option Value) (l2 : Option Value) (l3 : Option Value) (l4 : Option Value) (l5 : Option Value) (l6 : Option Value) (a0 : Nat) (s : List Value) (h : am_H), am_E P 86 151 [l0, l1, l2, l3, l4, l5, l6] (.ref a0 :: s) h = am_E P 86 152 [l0, l1, l2, l3, l4, l5, l6] (.ref a0 :: .ref a0 :: s) h) ∧
  (∀ (P : Nat × Nat) (l0 : Option Value) (l1 : Option Value) (l2 : Option Value) (l3 : Option Value) (l4 : Option Value) (l5 : Option Value) (l6 : Option Value) (a0 : Nat) (s : List Value) (h : am_H), am_E P 86 152 [l0, l1, l2, l3, l4, l5, l6] (.ref a0 :: s) h = (am_g1 h a0 9 27).bind (fun v => am_E P 86 155 [l0, l1, l2, l3, l4, l5, l6] (v :: s) h)) ∧
  (∀ (P : Nat × Nat) (l0 : Option Value) (l1 : Option Value) (l2 : Option Value) (l3 : Option Value) (l4 : Option Value) (l5 : Option Value) (l6 : Option Value) (s : List Value) (h : am_H), am_E P 86 155 [l0, l1, l2, l3, l4, l5, l6] s h = am_E P 86 156 [l0, l1, l2, l3, l4, l5, l6] (.int 1 :: s) h) ∧
  (∀ (P : Nat × Nat) (l0 : Option Value) (l1 : Option Value) (l2 : Option Value) (l3 : Option Value) (l4 : Option Value) (l5 : Option Value) (l6 : Option Value) (x0 : Int32) (x1 : Int32) (s : List Value) (h : am_H), am_E P 86 156 [l0, l1, l2, l3, l4, l5, l6] (.int x1 :: .int x0 :: s) h = am_E P 86 157 [l0, l1, l2, l3, l4, l5, l6] (.int (x0 + x1) :: s) h) ∧
  (∀ (P : Nat × Nat) (l0 : Option Value) (l1 : Option Value) (l2 : Option Value) (l3 : Option Value) (l4 : Option Value) (l5 : Option Value) (l6 : Option Value) (a0 : Nat) (x0 : Int32) (s : List Value) (h : am_H), am_E P 86 157 [l0, l1, l2, l3, l4, l5, l6] (.int x0 :: .ref a0 :: s) h = (am_p1 h a0 9 27 (.int x0)).bind (fun h => am_E P 86 160 [l0, l1, l2, l3, l4, l5, l6] s h)) ∧
  (∀ (P : Nat × Nat) (l0 : Option Value) (l1 : Option Value) (l3 : Option Value) (l4 : Option Value) (l5 : Option Value) (l6 : Option Value) (x0 : Int32) (s : List Value) (h : am_H), am_E P 86 160 [l0, l1, some (.int x0), l3, l4, l5, l6] s h = am_E P 86 161 [l0, l1, some (.int x0), l3, l4, l5, l6] (.int x0 :: s) h) ∧
  (∀ (P : Nat × Nat) (l0 : Option Value) (l1 : Option Value) (l2 : Option Value) (l3 : Option Value) (l4 : Option Value) (l5 : Option Value) (l6 : Option Value) (x0 : Int32) (h : am_H), am_E P 86 161 [l0, l1, l2, l3, l4, l5, l6] [.int x0] h = some (some (.int x0), h)) :=
  ⟨fun _ _ _ _ _ _ _ _ _ _ => er_go rfl rfl,
  fun _ _ _ _ _ _ _ _ _ => er_go rfl rfl,
  fun _ _ _ _ _ _ _ _ _ _ _ => er_go rfl rfl,
  fun _ _ _ _ _ _ _ _ _ _ _ => er_get1 rfl,
  fun _ _ _ _ _ _ _ _ _ _ => er_go rfl rfl,
  fun _ _ _ _ _ _ _ _ _ _ _ _ => er_go rfl rfl,
  fun _ _ _ _ _ _ _ _ _ _ _ _ => er_put1 rfl rfl,
  fun _ _ _ _ _ _ _ _ _ _ => er_go rfl rfl,
  fun _ _ _ _ _ _ _ _ _ _ _ => er_go rfl rfl,
  fun _ _ _ _ _ _ _ _ _ _ => er_go rfl rfl,
  fun _ _ _ _ _ _ _ _ _ _ _ => er_go rfl rfl,
  fun _ _ _ _ _ _ _ _ _ _ => er_go rfl rfl,
  fun _ _ _ _ _ _ _ _ _ => er_go rfl rfl,
  fun _ _ _ _ _ _ _ _ _ _ _ => er_get1 rfl,
  fun _ _ _ _ _ _ _ _ _ _ _ _ => er_ic_ge rfl,
  fun _ _ _ _ _ _ _ _ _ _ => er_go rfl rfl,
  fun _ _ _ _ _ _ _ _ _ => er_go rfl rfl,
  fun _ _ _ _ _ _ _ _ _ _ _ => er_get1 rfl,
  fun _ _ _ _ _ _ _ _ _ _ => er_go rfl rfl,
  fun _ _ _ _ _ _ _ _ _ _ _ _ => er_iald rfl,
  fun _ _ _ _ _ _ _ _ _ _ _ => er_go rfl rfl,
  fun _ _ _ _ _ _ _ _ _ _ => er_go rfl rfl,
  fun _ _ _ _ _ _ _ _ _ _ _ => er_if_le rfl,
  fun _ _ _ _ _ _ _ _ _ _ => er_go rfl rfl,
  fun _ _ _ _ _ _ _ _ _ => er_go rfl rfl,
  fun _ _ _ _ _ _ _ _ _ _ _ => er_get1 rfl,
  fun _ _ _ _ _ _ _ _ _ _ => er_go rfl rfl,
  fun _ _ _ _ _ _ _ _ _ _ _ _ => er_iald rfl,
  fun _ _ _ _ _ _ _ _ _ _ _ => er_go rfl rfl,
  fun _ _ _ _ _ _ _ _ _ _ => er_go rfl rfl,
  fun _ _ _ _ _ _ _ _ _ _ _ => er_go rfl rfl,
  fun _ _ _ _ _ _ _ _ _ _ => er_go rfl rfl,
  fun _ _ _ _ _ _ _ _ _ _ _ _ => er_ic_ge rfl,
  fun _ _ _ _ _ _ _ _ _ _ => er_go rfl rfl,
  fun _ _ _ _ _ _ _ _ _ => er_go rfl rfl,
  fun _ _ _ _ _ _ _ _ _ _ => er_go rfl rfl,
  fun _ _ _ _ _ _ _ _ _ _ => er_go rfl rfl,
  fun _ _ _ _ _ _ _ _ _ _ => er_go rfl rfl,
  fun _ _ _ _ _ _ _ _ _ _ => er_go rfl rfl,
  fun _ _ _ _ _ _ _ _ _ => er_go rfl rfl,
  fun _ _ _ _ _ _ _ _ _ _ _ => er_get1 rfl,
  fun _ _ _ _ _ _ _ _ _ _ => er_go rfl rfl,
  fun _ _ _ _ _ _ _ _ _ _ => er_go rfl rfl,
  fun _ _ _ _ _ _ _ _ _ _ _ _ => er_go rfl rfl,
  fun _ _ _ _ _ _ _ _ _ _ => er_go rfl rfl,
  fun _ _ _ _ _ _ _ _ _ _ _ _ => er_go rfl rfl,
  fun _ _ _ _ _ _ _ _ _ _ _ _ => er_iald rfl,
  fun _ _ _ _ _ _ _ _ _ _ => er_go rfl rfl,
  fun _ _ _ _ _ _ _ _ _ => er_go rfl rfl,
  fun _ _ _ _ _ _ _ _ _ _ _ => er_get1 rfl,
  fun _ _ _ _ _ _ _ _ _ _ => er_go rfl rfl,
  fun _ _ _ _ _ _ _ _ _ _ => er_go rfl rfl,
  fun _ _ _ _ _ _ _ _ _ _ _ _ => er_go rfl rfl,
  fun _ _ _ _ _ _ _ _ _ _ => er_go rfl rfl,
  fun _ _ _ _ _ _ _ _ _ _ _ _ => er_go rfl rfl,
  fun _ _ _ _ _ _ _ _ _ _ _ _ => er_iald rfl,
  fun _ _ _ _ _ _ _ _ _ _ _ _ _ _ _ => er_callV rfl rfl rfl rfl,
  fun _ _ _ _ _ _ _ _ _ _ _ => er_if_ne rfl,
  fun _ _ _ _ _ _ _ _ _ _ => er_go rfl rfl,
  fun _ _ _ _ _ _ _ _ _ _ => er_ret rfl rfl,
  fun _ _ _ _ _ _ _ _ _ _ => er_go rfl rfl,
  fun _ _ _ _ _ _ _ _ _ => er_go rfl rfl,
  fun _ _ _ _ _ _ _ _ _ _ _ => er_get1 rfl,
  fun _ _ _ _ _ _ _ _ _ _ => er_go rfl rfl,
  fun _ _ _ _ _ _ _ _ _ _ => er_go rfl rfl,
  fun _ _ _ _ _ _ _ _ _ _ => er_go rfl rfl,
  fun _ _ _ _ _ _ _ _ _ _ _ _ => er_go rfl rfl,
  fun _ _ _ _ _ _ _ _ _ _ _ _ _ => er_iast rfl,
  fun _ _ _ _ _ _ _ _ _ _ => er_go rfl rfl,
  fun _ _ _ _ _ _ _ _ _ _ => er_go rfl rfl,
  fun _ _ _ _ _ _ _ _ _ _ => er_go rfl rfl,
  fun _ _ _ _ _ _ _ _ _ _ => er_go rfl rfl,
  fun _ _ _ _ _ _ _ _ _ => er_go rfl rfl,
  fun _ _ _ _ _ _ _ _ _ _ => er_go rfl rfl,
  fun _ _ _ _ _ _ _ _ _ _ => er_go rfl rfl,
  fun _ _ _ _ _ _ _ _ _ _ => er_go rfl rfl,
  fun _ _ _ _ _ _ _ _ _ _ => er_go rfl rfl,
  fun _ _ _ _ _ _ _ _ _ _ => er_go rfl rfl,
  fun _ _ _ _ _ _ _ _ _ _ _ _ _ _ _ => er_callV rfl rfl rfl rfl,
  fun _ _ _ _ _ _ _ _ _ _ _ => er_if_ne rfl,
  fun _ _ _ _ _ _ _ _ _ _ => er_go rfl rfl,
  fun _ _ _ _ _ _ _ _ _ _ => er_ret rfl rfl,
  fun _ _ _ _ _ _ _ _ _ _ => er_go rfl rfl,
  fun _ _ _ _ _ _ _ _ _ => er_go rfl rfl,
  fun _ _ _ _ _ _ _ _ _ _ _ => er_get1 rfl,
  fun _ _ _ _ _ _ _ _ _ _ => er_go rfl rfl,
  fun _ _ _ _ _ _ _ _ _ _ => er_go rfl rfl,
  fun _ _ _ _ _ _ _ _ _ _ _ _ _ => er_iast rfl,
  fun _ _ _ _ _ _ _ _ _ _ => er_go rfl rfl,
  fun _ _ _ _ _ _ _ _ _ _ => er_go rfl rfl,
  fun _ _ _ _ _ _ _ _ _ _ => er_go rfl rfl,
  fun _ _ _ _ _ _ _ _ _ => er_go rfl rfl,
  fun _ _ _ _ _ _ _ _ _ _ _ => er_get1 rfl,
  fun _ _ _ _ _ _ _ _ _ _ => er_go rfl rfl,
  fun _ _ _ _ _ _ _ _ _ => er_go rfl rfl,
  fun _ _ _ _ _ _ _ _ _ _ _ => er_get1 rfl,
  fun _ _ _ _ _ _ _ _ _ _ => er_go rfl rfl,
  fun _ _ _ _ _ _ _ _ _ _ _ _ _ => er_iast rfl,
  fun _ _ _ _ _ _ _ _ _ _ => er_go rfl rfl,
  fun _ _ _ _ _ _ _ _ _ => er_go rfl rfl,
  fun _ _ _ _ _ _ _ _ _ _ _ => er_go rfl rfl,
  fun _ _ _ _ _ _ _ _ _ _ _ => er_get1 rfl,
  fun _ _ _ _ _ _ _ _ _ _ => er_go rfl rfl,
  fun _ _ _ _ _ _ _ _ _ _ _ _ => er_go rfl rfl,
  fun _ _ _ _ _ _ _ _ _ _ _ _ => er_put1 rfl rfl,
  fun _ _ _ _ _ _ _ _ _ _ => er_go rfl rfl,
  fun _ _ _ _ _ _ _ _ _ _ => er_ret rfl rfl⟩
set_option maxRecDepth 100000 in
theorem hd86_14 : ∀ (P : Nat × Nat) (l0 : Option Value) (l1 : Option Value) (l2 : Option Value) (l4 : Option Value) (l5 : Option Value) (l6 : Option Value) (x0 : Int32) (s : List Value) (h : am_H), am_E P 86 14 [l0, l1, l2, some (.int x0), l4, l5, l6] s h = am_E P 86 15 [l0, l1, l2, some (.int x0), l4, l5, l6] (.int x0 :: s) h := fun _ _ _ _ _ _ _ _ _ _ => er_go rfl rfl
set_option maxRecDepth 100000 in
theorem hd86_46 : ∀ (P : Nat × Nat) (l0 : Option Value) (l1 : Option Value) (l2 : Option Value) (l3 : Option Value) (l4 : Option Value) (l5 : Option Value) (x0 : Int32) (s : List Value) (h : am_H), am_E P 86 46 [l0, l1, l2, l3, l4, l5, some (.int x0)] s h = am_E P 86 48 [l0, l1, l2, l3, l4, l5, some (.int x0)] (.int x0 :: s) h := fun _ _ _ _ _ _ _ _ _ _ => er_go rfl rfl
set_option maxRecDepth 100000 in
/-- TwoStepOutputsModel.barrier(I)I -/
theorem r87 : (∀ (P : Nat × Nat) (l1 : Option Value) (l2 : Option Value) (a0 : Nat) (s : List Value) (h : am_H), am_E P 87 0 [some (.ref a0), l1, l2] s h = am_E P 87 1 [some (.ref a0), l1, l2] (.ref a0 :: s) h) ∧
  (∀ (P : Nat × Nat) (l1 : Option Value) (l2 : Option Value) (s : List Value) (h : am_H), am_E P 87 0 [some .null, l1, l2] s h = am_E P 87 1 [some .null, l1, l2] (.null :: s) h) ∧
  (∀ (P : Nat × Nat) (l0 : Option Value) (l2 : Option Value) (x0 : Int32) (s : List Value) (h : am_H), am_E P 87 1 [l0, some (.int x0), l2] s h = am_E P 87 2 [l0, some (.int x0), l2] (.int x0 :: s) h) ∧
  (∀ (P : Nat × Nat) (l0 : Option Value) (l1 : Option Value) (l2 : Option Value) (a0 : Nat) (x0 : Int32) (h : am_H), am_E P 87 2 [l0, l1, l2] [.int x0, .ref a0] h = if am_cls h a0 = some 9 then (am_E P 85 0 [some (.ref a0), some (.int x0), none, none, none] [] h).bind (fun q => am_E P 87 5 [l0, l1, l2] (q.1.toList ++ []) q.2) else none) ∧
  (∀ (P : Nat × Nat) (l0 : Option Value) (l1 : Option Value) (l2 : Option Value) (x0 : Int32) (s : List Value) (h : am_H), am_E P 87 5 [l0, l1, l2] (.int x0 :: s) h = am_E P 87 6 [l0, l1, some (.int x0)] s h) ∧
  (∀ (P : Nat × Nat) (l0 : Option Value) (l1 : Option Value) (x0 : Int32) (s : List Value) (h : am_H), am_E P 87 6 [l0, l1, some (.int x0)] s h = am_E P 87 7 [l0, l1, some (.int x0)] (.int x0 :: s) h) ∧
  (∀ (P : Nat × Nat) (l0 : Option Value) (l1 : Option Value) (l2 : Option Value) (x0 : Int32) (s : List Value) (h : am_H), am_E P 87 7 [l0, l1, l2] (.int x0 :: s) h = if x0 = 0 then am_E P 87 14 [l0, l1, l2] s h else am_E P 87 10 [l0, l1, l2] s h) ∧
  (∀ (P : Nat × Nat) (l0 : Option Value) (l1 : Option Value) (x0 : Int32) (s : List Value) (h : am_H), am_E P 87 10 [l0, l1, some (.int x0)] s h = am_E P 87 11 [l0, l1, some (.int x0)] (.int x0 :: s) h) ∧
  (∀ (P : Nat × Nat) (l0 : Option Value) (l1 : Option Value) (l2 : Option Value) (s : List Value) (h : am_H), am_E P 87 11 [l0, l1, l2] s h = am_E P 87 19 [l0, l1, l2] s h) ∧
  (∀ (P : Nat × Nat) (l1 : Option Value) (l2 : Option Value) (a0 : Nat) (s : List Value) (h : am_H), am_E P 87 14 [some (.ref a0), l1, l2] s h = am_E P 87 15 [some (.ref a0), l1, l2] (.ref a0 :: s) h) ∧
  (∀ (P : Nat × Nat) (l1 : Option Value) (l2 : Option Value) (s : List Value) (h : am_H), am_E P 87 14 [some .null, l1, l2] s h = am_E P 87 15 [some .null, l1, l2] (.null :: s) h) ∧
  (∀ (P : Nat × Nat) (l0 : Option Value) (l2 : Option Value) (x0 : Int32) (s : List Value) (h : am_H), am_E P 87 15 [l0, some (.int x0), l2] s h = am_E P 87 16 [l0, some (.int x0), l2] (.int x0 :: s) h) ∧
  (∀ (P : Nat × Nat) (l0 : Option Value) (l1 : Option Value) (l2 : Option Value) (a0 : Nat) (x0 : Int32) (h : am_H), am_E P 87 16 [l0, l1, l2] [.int x0, .ref a0] h = if am_cls h a0 = some 9 then (am_E P 86 0 [some (.ref a0), some (.int x0), none, none, none, none, none] [] h).bind (fun q => am_E P 87 19 [l0, l1, l2] (q.1.toList ++ []) q.2) else none) ∧
  (∀ (P : Nat × Nat) (l0 : Option Value) (l1 : Option Value) (l2 : Option Value) (x0 : Int32) (h : am_H), am_E P 87 19 [l0, l1, l2] [.int x0] h = some (some (.int x0), h)) :=
  ⟨fun _ _ _ _ _ _ => er_go rfl rfl,
  fun _ _ _ _ _ => er_go rfl rfl,
  fun _ _ _ _ _ _ => er_go rfl rfl,
  fun _ _ _ _ _ _ _ => er_callV rfl rfl rfl rfl,
  fun _ _ _ _ _ _ _ => er_go rfl rfl,
  fun _ _ _ _ _ _ => er_go rfl rfl,
  fun _ _ _ _ _ _ _ => er_if_eq rfl,
  fun _ _ _ _ _ _ => er_go rfl rfl,
  fun _ _ _ _ _ _ => er_go rfl rfl,
  fun _ _ _ _ _ _ => er_go rfl rfl,
  fun _ _ _ _ _ => er_go rfl rfl,
  fun _ _ _ _ _ _ => er_go rfl rfl,
  fun _ _ _ _ _ _ _ => er_callV rfl rfl rfl rfl,
  fun _ _ _ _ _ _ => er_ret rfl rfl⟩
set_option maxRecDepth 100000 in
/-- TwoStepOutputsModel.keep(I)I -/
theorem r88 : (∀ (P : Nat × Nat) (l0 : Option Value) (l1 : Option Value) (l2 : Option Value) (l3 : Option Value) (s : List Value) (h : am_H), am_E P 88 0 [l0, l1, l2, l3] s h = am_E P 88 1 [l0, l1, l2, l3] (.int 0 :: s) h) ∧
  (∀ (P : Nat × Nat) (l0 : Option Value) (l1 : Option Value) (l2 : Option Value) (l3 : Option Value) (x0 : Int32) (s : List Value) (h : am_H), am_E P 88 1 [l0, l1, l2, l3] (.int x0 :: s) h = am_E P 88 2 [l0, l1, some (.int x0), l3] s h) ∧
  (∀ (P : Nat × Nat) (l0 : Option Value) (l1 : Option Value) (l2 : Option Value) (l3 : Option Value) (s : List Value) (h : am_H), am_E P 88 2 [l0, l1, l2, l3] s h = am_E P 88 3 [l0, l1, l2, l3] (.int 0 :: s) h) ∧
  (∀ (P : Nat × Nat) (l0 : Option Value) (l1 : Option Value) (l2 : Option Value) (l3 : Option Value) (x0 : Int32) (s : List Value) (h : am_H), am_E P 88 3 [l0, l1, l2, l3] (.int x0 :: s) h = am_E P 88 4 [l0, l1, l2, some (.int x0)] s h) ∧
  (∀ (P : Nat × Nat) (l1 : Option Value) (l2 : Option Value) (l3 : Option Value) (a0 : Nat) (s : List Value) (h : am_H), am_E P 88 5 [some (.ref a0), l1, l2, l3] s h = am_E P 88 6 [some (.ref a0), l1, l2, l3] (.ref a0 :: s) h) ∧
  (∀ (P : Nat × Nat) (l1 : Option Value) (l2 : Option Value) (l3 : Option Value) (s : List Value) (h : am_H), am_E P 88 5 [some .null, l1, l2, l3] s h = am_E P 88 6 [some .null, l1, l2, l3] (.null :: s) h) ∧
  (∀ (P : Nat × Nat) (l0 : Option Value) (l1 : Option Value) (l2 : Option Value) (l3 : Option Value) (a0 : Nat) (s : List Value) (h : am_H), am_E P 88 6 [l0, l1, l2, l3] (.ref a0 :: s) h = (am_g1 h a0 9 27).bind (fun v => am_E P 88 9 [l0, l1, l2, l3] (v :: s) h)) ∧
  (∀ (P : Nat × Nat) (l0 : Option Value) (l1 : Option Value) (l2 : Option Value) (l3 : Option Value) (x0 : Int32) (x1 : Int32) (s : List Value) (h : am_H), am_E P 88 9 [l0, l1, l2, l3] (.int x1 :: .int x0 :: s) h = if x1 ≤ x0 then am_E P 88 36 [l0, l1, l2, l3] s h else am_E P 88 12 [l0, l1, l2, l3] s h) ∧
  (∀ (P : Nat × Nat) (l0 : Option Value) (l1 : Option Value) (l3 : Option Value) (x0 : Int32) (s : List Value) (h : am_H), am_E P 88 12 [l0, l1, some (.int x0), l3] s h = am_E P 88 13 [l0, l1, some (.int x0), l3] (.int x0 :: s) h) ∧
  (∀ (P : Nat × Nat) (l1 : Option Value) (l2 : Option Value) (l3 : Option Value) (a0 : Nat) (s : List Value) (h : am_H), am_E P 88 13 [some (.ref a0), l1, l2, l3] s h = am_E P 88 14 [some (.ref a0), l1, l2, l3] (.ref a0 :: s) h) ∧
  (∀ (P : Nat × Nat) (l1 : Option Value) (l2 : Option Value) (l3 : Option Value) (s : List Value) (h : am_H), am_E P 88 13 [some .null, l1, l2, l3] s h = am_E P 88 14 [some .null, l1, l2, l3] (.null :: s) h) ∧
  (∀ (P : Nat × Nat) (l0 : Option Value) (l1 : Option Value) (l2 : Option Value) (l3 : Option Value) (a0 : Nat) (s : List Value) (h : am_H), am_E P 88 14 [l0, l1, l2, l3] (.ref a0 :: s) h = (am_g1 h a0 9 26).bind (fun v => am_E P 88 17 [l0, l1, l2, l3] (v :: s) h)) ∧
  (∀ (P : Nat × Nat) (l0 : Option Value) (l1 : Option Value) (l2 : Option Value) (x0 : Int32) (s : List Value) (h : am_H), am_E P 88 17 [l0, l1, l2, some (.int x0)] s h = am_E P 88 18 [l0, l1, l2, some (.int x0)] (.int x0 :: s) h) ∧
  (∀ (P : Nat × Nat) (l0 : Option Value) (l1 : Option Value) (l2 : Option Value) (l3 : Option Value) (x0 : Int32) (a0 : Nat) (s : List Value) (h : am_H), am_E P 88 18 [l0, l1, l2, l3] (.int x0 :: .ref a0 :: s) h = (am_iald h a0 x0).bind (fun v => am_E P 88 19 [l0, l1, l2, l3] (.int v :: s) h)) ∧
  (∀ (P : Nat × Nat) (l0 : Option Value) (l2 : Option Value) (l3 : Option Value) (x0 : Int32) (s : List Value) (h : am_H), am_E P 88 19 [l0, some (.int x0), l2, l3] s h = am_E P 88 20 [l0, some (.int x0), l2, l3] (.int x0 :: s) h) ∧
  (∀ (P : Nat × Nat) (l0 : Option Value) (l1 : Option Value) (l2 : Option Value) (l3 : Option Value) (x0 : Int32) (x1 : Int32) (s : List Value) (h : am_H), am_E P 88 20 [l0, l1, l2, l3] (.int x1 :: .int x0 :: s) h = if x0 = x1 then am_E P 88 23 [l0, l1, l2, l3] s h else am_E P 88 27 [l0, l1, l2, l3] s h) ∧
  (∀ (P : Nat × Nat) (l0 : Option Value) (l1 : Option Value) (l2 : Option Value) (l3 : Option Value) (s : List Value) (h : am_H), am_E P 88 23 [l0, l1, l2, l3] s h = am_E P 88 24 [l0, l1, l2, l3] (.int 1 :: s) h) ∧
  (∀ (P : Nat × Nat) (l0 : Option Value) (l1 : Option Value) (l2 : Option Value) (l3 : Option Value) (s : List Value) (h : am_H), am_E P 88 24 [l0, l1, l2, l3] s h = am_E P 88 28 [l0, l1, l2, l3] s h) ∧
  (∀ (P : Nat × Nat) (l0 : Option Value) (l1 : Option Value) (l2 : Option Value) (l3 : Option Value) (s : List Value) (h : am_H), am_E P 88 27 [l0, l1, l2, l3] s h = am_E P 88 28 [l0, l1, l2, l3] (.int 0 :: s) h) ∧
  (∀ (P : Nat × Nat) (l0 : Option Value) (l1 : Option Value) (l2 : Option Value) (l3 : Option Value) (x0 : Int32) (x1 : Int32) (s : List Value) (h : am_H), am_E P 88 28 [l0, l1, l2, l3] (.int x1 :: .int x0 :: s) h = am_E P 88 29 [l0, l1, l2, l3] (.int (x0 ||| x1) :: s) h) ∧
  (∀ (P : Nat × Nat) (l0 : Option Value) (l1 : Option Value) (l2 : Option Value) (l3 : Option Value) (x0 : Int32) (s : List Value) (h : am_H), am_E P 88 29 [l0, l1, l2, l3] (.int x0 :: s) h = am_E P 88 30 [l0, l1, some (.int x0), l3] s h) ∧
  (∀ (P : Nat × Nat) (l0 : Option Value) (l1 : Option Value) (l2 : Option Value) (x0 : Int32) (s : List Value) (h : am_H), am_E P 88 30 [l0, l1, l2, some (.int x0)] s h = am_E P 88 33 [l0, l1, l2, some (.int (x0 + 1))] s h) ∧
  (∀ (P : Nat × Nat) (l0 : Option Value) (l1 : Option Value) (l2 : Option Value) (l3 : Option Value) (s : List Value) (h : am_H), am_E P 88 33 [l0, l1, l2, l3] s h = am_E P 88 4 [l0, l1, l2, l3] s h) ∧
  (∀ (P : Nat × Nat) (l0 : Option Value) (l1 : Option Value) (l3 : Option Value) (x0 : Int32) (s : List Value) (h : am_H), am_E P 88 36 [l0, l1, some (.int x0), l3] s h = am_E P 88 37 [l0, l1, some (.int x0), l3] (.int x0 :: s) h) ∧
  (∀ (P : Nat × Nat) (l0 : Option Value) (l1 : Option Value) (l2 : Option Value) (l3 : Option Value) (x0 : Int32) (s : List Value) (h : am_H), am_E P 88 37 [l0, l1, l2, l3] (.int x0 :: s) h = if x0 = 0 then am_E P 88 57 [l0, l1, l2, l3] s h else am_E P 88 40 [l0, l1, l2, l3] s h) ∧
  (∀ (P : Nat × Nat) (l1 : Option Value) (l2 : Option Value) (l3 : Option Value) (a0 : Nat) (s : List Value) (h : am_H), am_E P 88 40 [some (.ref a0), l1, l2, l3] s h = am_E P 88 41 [some (.ref a0), l1, l2, l3] (.ref a0 :: s) h) ∧
  (∀ (P : Nat × Nat) (l1 : Option Value) (l2 : Option Value) (l3 : Option Value) (s : List Value) (h : am_H), am_E P 88 40 [some .null, l1, l2, l3] s h = am_E P 88 41 [some .null, l1, l2, l3] (.null :: s) h) ∧
  (∀ (P : Nat × Nat) (l0 : Option Value) (l1 : Option Value) (l2 : Option Value) (l3 : Option Value) (a0 : Nat) (s : List Value) (h : am_H), am_E P 88 41 [l0, l1, l2, l3] (.ref a0 :: s) h = (am_g1 h a0 9 25).bind (fun v => am_E P 88 44 [l0, l1, l2, l3] (v :: s) h)) ∧
  (∀ (P : Nat × Nat) (l0 : Option Value) (l1 : Option Value) (l2 : Option Value) (l3 : Option Value) (s : List Value) (h : am_H), am_E P 88 44 [l0, l1, l2, l3] s h = am_E P 88 46 [l0, l1, l2, l3] (.int (-6) :: s) h) ∧
  (∀ (P : Nat × Nat) (l0 : Option Value) (l1 : Option Value) (l2 : Option Value) (l3 : Option Value) (x0 : Int32) (x1 : Int32) (s : List Value) (h : am_H), am_E P 88 46 [l0, l1, l2, l3] (.int x1 :: .int x0 :: s) h = if x0 = x1 then am_E P 88 60 [l0, l1, l2, l3] s h else am_E P 88 49 [l0, l1, l2, l3] s h) ∧
  (∀ (P : Nat × Nat) (l0 : Option Value) (l2 : Option Value) (l3 : Option Value) (x0 : Int32) (s : List Value) (h : am_H), am_E P 88 49 [l0, some (.int x0), l2, l3] s h = am_E P 88 50 [l0, some (.int x0), l2, l3] (.int x0 :: s) h) ∧
  (∀ (P : Nat × Nat) (l1 : Option Value) (l2 : Option Value) (l3 : Option Value) (a0 : Nat) (s : List Value) (h : am_H), am_E P 88 50 [some (.ref a0), l1, l2, l3] s h = am_E P 88 51 [some (.ref a0), l1, l2, l3] (.ref a0 :: s) h) ∧
  (∀ (P : Nat × Nat) (l1 : Option Value) (l2 : Option Value) (l3 : Option Value) (s : List Value) (h : am_H), am_E P 88 50 [some .null, l1, l2, l3] s h = am_E P 88 51 [some .null, l1, l2, l3] (.null :: s) h) ∧
  (∀ (P : Nat × Nat) (l0 : Option Value) (l1 : Option Value) (l2 : Option Value) (l3 : Option Value) (a0 : Nat) (s : List Value) (h : am_H), am_E P 88 51 [l0, l1, l2, l3] (.ref a0 :: s) h = (am_g1 h a0 9 25).bind (fun v => am_E P 88 54 [l0, l1, l2, l3] (v :: s) h)) ∧
  (∀ (P : Nat × Nat) (l0 : Option Value) (l1 : Option Value) (l2 : Option Value) (l3 : Option Value) (x0 : Int32) (x1 : Int32) (s : List Value) (h : am_H), am_E P 88 54 [l0, l1, l2, l3] (.int x1 :: .int x0 :: s) h = if x1 < x0 then am_E P 88 60 [l0, l1, l2, l3] s h else am_E P 88 57 [l0, l1, l2, l3] s h) ∧
  (∀ (P : Nat × Nat) (l0 : Option Value) (l1 : Option Value) (l2 : Option Value) (l3 : Option Value) (s : List Value) (h : am_H), am_E P 88 57 [l0, l1, l2, l3] s h = am_E P 88 59 [l0, l1, l2, l3] (.int (-2) :: s) h) ∧
  (∀ (P : Nat × Nat) (l0 : Option Value) (l1 : Option Value) (l2 : Option Value) (l3 : Option Value) (x0 : Int32) (h : am_H), am_E P 88 59 [l0, l1, l2, l3] [.int x0] h = some (some (.int x0), h)) ∧
  (∀ (P : Nat × Nat) (l1 : Option Value) (l2 : Option Value) (l3 : Option Value) (a0 : Nat) (s : List Value) (h : am_H), am_E P 88 60 [some (.ref a0), l1, l2, l3] s h = am_E P 88 61 [some (.ref a0), l1, l2, l3] (.ref a0 :: s) h) ∧
  (∀ (P : Nat × Nat) (l1 : Option Value) (l2 : Option Value) (l3 : Option Value) (s : List Value) (h : am_H), am_E P 88 60 [some .null, l1, l2, l3] s h = am_E P 88 61 [some .null, l1, l2, l3] (.null :: s) h) ∧
  (∀ (P : Nat × Nat) (l0 : Option Value) (l1 : Option Value) (l2 : Option Value) (l3 : Option Value) (a0 : Nat) (s : List Value) (h : am_H), am_E P 88 61 [l0, l1, l2, l3] (.ref a0 :: s) h = (am_g1 h a0 9 30).bind (fun v => am_E P 88 64 [l0, l1, l2, l3] (v :: s) h)) ∧
  (∀ (P : Nat × Nat) (l0 : Option Value) (l1 : Option Value) (l2 : Option Value) (l3 : Option Value) (x0 : Int32) (s : List Value) (h : am_H), am_E P 88 64 [l0, l1, l2, l3] (.int x0 :: s) h = if x0 = 0 then am_E P 88 67 [l0, l1, l2, l3] s h else am_E P 88 82 [l0, l1, l2, l3] s h) ∧
  (∀ (P : Nat × Nat) (l1 : Option Value) (l2 : Option Value) (l3 : Option Value) (a0 : Nat) (s : List Value) (h : am_H), am_E P 88 67 [some (.ref a0), l1, l2, l3] s h = am_E P 88 68 [some (.ref a0), l1, l2, l3] (.ref a0 :: s) h) ∧
  (∀ (P : Nat × Nat) (l1 : Option Value) (l2 : Option Value) (l3 : Option Value) (s : List Value) (h : am_H), am_E P 88 67 [some .null, l1, l2, l3] s h = am_E P 88 68 [some .null, l1, l2, l3] (.null :: s) h) ∧
  (∀ (P : Nat × Nat) (l0 : Option Value) (l1 : Option Value) (l2 : Option Value) (l3 : Option Value) (s : List Value) (h : am_H), am_E P 88 68 [l0, l1, l2, l3] s h = am_E P 88 69 [l0, l1, l2, l3] (.int 2 :: s) h) ∧
  (∀ (P : Nat × Nat) (l0 : Option Value) (l1 : Option Value) (l2 : Option Value) (l3 : Option Value) (s : List Value) (h : am_H), am_E P 88 69 [l0, l1, l2, l3] s h = am_E P 88 71 [l0, l1, l2, l3] (.int (-6) :: s) h) ∧
  (∀ (P : Nat × Nat) (l0 : Option Value) (l1 : Option Value) (l2 : Option Value) (l3 : Option Value) (s : List Value) (h : am_H), am_E P 88 71 [l0, l1, l2, l3] s h = am_E P 88 73 [l0, l1, l2, l3] (.int (-6) :: s) h) ∧
  (∀ (P : Nat × Nat) (l0 : Option Value) (l2 : Option Value) (l3 : Option Value) (x0 : Int32) (s : List Value) (h : am_H), am_E P 88 73 [l0, some (.int x0), l2, l3] s h = am_E P 88 74 [l0, some (.int x0), l2, l3] (.int x0 :: s) h) ∧
  (∀ (P : Nat × Nat) (l0 : Option Value) (l1 : Option Value) (l2 : Option Value) (l3 : Option Value) (s : List Value) (h : am_H), am_E P 88 74 [l0, l1, l2, l3] s h = am_E P 88 76 [l0, l1, l2, l3] (.int (-6) :: s) h) ∧
  (∀ (P : Nat × Nat) (l0 : Option Value) (l1 : Option Value) (l2 : Option Value) (l3 : Option Value) (a0 : Nat) (x0 : Int32) (x1 : Int32) (x2 : Int32) (x3 : Int32) (x4 : Int32) (h : am_H), am_E P 88 76 [l0, l1, l2, l3] [.int x4, .int x3, .int x2, .int x1, .int x0, .ref a0] h = if am_cls h a0 = some 9 then (am_E P 78 0 [some (.ref a0), some (.int x0), some (.int x1), some (.int x2), some (.int x3), some (.int x4)] [] h).bind (fun q => am_E P 88 79 [l0, l1, l2, l3] (q.1.toList ++ []) q.2) else none) ∧
  (∀ (P : Nat × Nat) (l0 : Option Value) (l1 : Option Value) (l2 : Option Value) (l3 : Option Value) (x0 : Int32) (s : List Value) (h : am_H), am_E P 88 79 [l0, l1, l2, l3] (.int x0 :: s) h = if x0 = 0 then am_E P 88 82 [l0, l1, l2, l3] s h else am_E P 88 85 [l0, l1, l2, l3] s h) ∧
  (∀ (P : Nat × Nat) (l0 : Option Value) (l1 : Option Value) (l2 : Option Value) (l3 : Option Value) (s : List Value) (h : am_H), am_E P 88 82 [l0, l1, l2, l3] s h = am_E P 88 84 [l0, l1, l2, l3] (.int (-5) :: s) h) ∧
  (∀ (P : Nat × Nat) (l0 : Option Value) (l1 : Option Value) (l2 : Option Value) (l3 : Option Value) (x0 : Int32) (h : am_H), am_E P 88 84 [l0, l1, l2, l3] [.int x0] h = some (some (.int x0), h)) ∧
  (∀ (P : Nat × Nat) (l1 : Option Value) (l2 : Option Value) (l3 : Option Value) (a0 : Nat) (s : List Value) (h : am_H), am_E P 88 85 [some (.ref a0), l1, l2, l3] s h = am_E P 88 86 [some (.ref a0), l1, l2, l3] (.ref a0 :: s) h) ∧
  (∀ (P : Nat × Nat) (l1 : Option Value) (l2 : Option Value) (l3 : Option Value) (s : List Value) (h : am_H), am_E P 88 85 [some .null, l1, l2, l3] s h = am_E P 88 86 [some .null, l1, l2, l3] (.null :: s) h) ∧
  (∀ (P : Nat × Nat) (l0 : Option Value) (l2 : Option Value) (l3 : Option Value) (x0 : Int32) (s : List Value) (h : am_H), am_E P 88 86 [l0, some (.int x0), l2, l3] s h = am_E P 88 87 [l0, some (.int x0), l2, l3] (.int x0 :: s) h) ∧
  (∀ (P : Nat × Nat) (l0 : Option Value) (l1 : Option Value) (l2 : Option Value) (l3 : Option Value) (a0 : Nat) (x0 : Int32) (s : List Value) (h : am_H), am_E P 88 87 [l0, l1, l2, l3] (.int x0 :: .ref a0 :: s) h = (am_p1 h a0 9 25 (.int x0)).bind (fun h => am_E P 88 90 [l0, l1, l2, l3] s h)) ∧
  (∀ (P : Nat × Nat) (l1 : Option Value) (l2 : Option Value) (l3 : Option Value) (a0 : Nat) (s : List Value) (h : am_H), am_E P 88 90 [some (.ref a0), l1, l2, l3] s h = am_E P 88 91 [some (.ref a0), l1, l2, l3] (.ref a0 :: s) h) ∧
  (∀ (P : Nat × Nat) (l1 : Option Value) (l2 : Option Value) (l3 : Option Value) (s : List Value) (h : am_H), am_E P 88 90 [some .null, l1, l2, l3] s h = am_E P 88 91 [some .null, l1, l2, l3] (.null :: s) h) ∧
  (∀ (P : Nat × Nat) (l0 : Option Value) (l1 : Option Value) (l2 : Option Value) (l3 : Option Value) (a0 : Nat) (h : am_H), am_E P 88 91 [l0, l1, l2, l3] [.ref a0] h = if am_cls h a0 = some 9 then (am_E P 90 0 [some (.ref a0), none, none, none, none, none] [] h).bind (fun q => am_E P 88 94 [l0, l1, l2, l3] (q.1.toList ++ []) q.2) else none) ∧
  (∀ (P : Nat × Nat) (l0 : Option Value) (l1 : Option Value) (l2 : Option Value) (l3 : Option Value) (x0 : Int32) (h : am_H), am_E P 88 94 [l0, l1, l2, l3] [.int x0] h = some (some (.int x0), h)) :=
  ⟨fun _ _ _ _ _ _ _ => er_go rfl rfl,
  fun _ _ _ _ _ _ _ _ => er_go rfl rfl,
  fun _ _ _ _ _ _ _ => er_go rfl rfl,
  fun _ _ _ _ _ _ _ _ => er_go rfl rfl,
  fun _ _ _ _ _ _ _ => er_go rfl rfl,
  fun _ _ _ _ _ _ => er_go rfl rfl,
  fun _ _ _ _ _ _ _ _ => er_get1 rfl,
  fun _ _ _ _ _ _ _ _ _ => er_ic_ge rfl,
  fun _ _ _ _ _ _ _ => er_go rfl rfl,
  fun _ _ _ _ _ _ _ => er_go rfl rfl,
  fun _ _ _ _ _ _ => er_go rfl rfl,
  fun _ _ _ _ _ _ _ _ => er_get1 rfl,
  fun _ _ _ _ _ _ _ => er_go rfl rfl,
  fun _ _ _ _ _ _ _ _ _ => er_iald rfl,
  fun _ _ _ _ _ _ _ => er_go rfl rfl,
  fun _ _ _ _ _ _ _ _ _ => er_ic_ne rfl,
  fun _ _ _ _ _ _ _ => er_go rfl rfl,
  fun _ _ _ _ _ _ _ => er_go rfl rfl,
  fun _ _ _ _ _ _ _ => er_go rfl rfl,
  fun _ _ _ _ _ _ _ _ _ => er_go rfl rfl,
  fun _ _ _ _ _ _ _ _ => er_go rfl rfl,
  fun _ _ _ _ _ _ _ => er_go rfl rfl,
  fun _ _ _ _ _ _ _ => er_go rfl rfl,
  fun _ _ _ _ _ _ _ => er_go rfl rfl,
  fun _ _ _ _ _ _ _ _ => er_if_eq rfl,
  fun _ _ _ _ _ _ _ => er_go rfl rfl,
  fun _ _ _ _ _ _ => er_go rfl rfl,
  fun _ _ _ _ _ _ _ _ => er_get1 rfl,
  fun _ _ _ _ _ _ _ => er_go rfl rfl,
  fun _ _ _ _ _ _ _ _ _ => er_ic_eq rfl,
  fun _ _ _ _ _ _ _ => er_go rfl rfl,
  fun _ _ _ _ _ _ _ => er_go rfl rfl,
  fun _ _ _ _ _ _ => er_go rfl rfl,
  fun _ _ _ _ _ _ _ _ => er_get1 rfl,
  fun _ _ _ _ _ _ _ _ _ => er_ic_gt rfl,
  fun _ _ _ _ _ _ _ => er_go rfl rfl,
  fun _ _ _ _ _ _ _ => er_ret rfl rfl,
  fun _ _ _ _ _ _ _ => er_go rfl rfl,
  fun _ _ _ _ _ _ => er_go rfl rfl,
  fun _ _ _ _ _ _ _ _ => er_get1 rfl,
  fun _ _ _ _ _ _ _ _ => er_if_ne rfl,
  fun _ _ _ _ _ _ _ => er_go rfl rfl,
  fun _ _ _ _ _ _ => er_go rfl rfl,
  fun _ _ _ _ _ _ _ => er_go rfl rfl,
  fun _ _ _ _ _ _ _ => er_go rfl rfl,
  fun _ _ _ _ _ _ _ => er_go rfl rfl,
  fun _ _ _ _ _ _ _ => er_go rfl rfl,
  fun _ _ _ _ _ _ _ => er_go rfl rfl,
  fun _ _ _ _ _ _ _ _ _ _ _ _ => er_callV rfl rfl rfl rfl,
  fun _ _ _ _ _ _ _ _ => er_if_ne rfl,
  fun _ _ _ _ _ _ _ => er_go rfl rfl,
  fun _ _ _ _ _ _ _ => er_ret rfl rfl,
  fun _ _ _ _ _ _ _ => er_go rfl rfl,
  fun _ _ _ _ _ _ => er_go rfl rfl,
  fun _ _ _ _ _ _ _ => er_go rfl rfl,
  fun _ _ _ _ _ _ _ _ _ => er_put1 rfl rfl,
  fun _ _ _ _ _ _ _ => er_go rfl rfl,
  fun _ _ _ _ _ _ => er_go rfl rfl,
  fun _ _ _ _ _ _ _ => er_callV rfl rfl rfl rfl,
  fun _ _ _ _ _ _ _ => er_ret rfl rfl⟩
set_option maxRecDepth 100000 in
theorem hd88_4 : ∀ (P : Nat × Nat) (l0 : Option Value) (l1 : Option Value) (l2 : Option Value) (x0 : Int32) (s : List Value) (h : am_H), am_E P 88 4 [l0, l1, l2, some (.int x0)] s h = am_E P 88 5 [l0, l1, l2, some (.int x0)] (.int x0 :: s) h := fun _ _ _ _ _ _ _ => er_go rfl rfl
set_option maxRecDepth 100000 in
/-- TwoStepOutputsModel.show()I -/
theorem r89 : (∀ (P : Nat × Nat) (a0 : Nat) (s : List Value) (h : am_H), am_E P 89 0 [some (.ref a0)] s h = am_E P 89 1 [some (.ref a0)] (.ref a0 :: s) h) ∧
  (∀ (P : Nat × Nat) (s : List Value) (h : am_H), am_E P 89 0 [some .null] s h = am_E P 89 1 [some .null] (.null :: s) h) ∧
  (∀ (P : Nat × Nat) (l0 : Option Value) (a0 : Nat) (s : List Value) (h : am_H), am_E P 89 1 [l0] (.ref a0 :: s) h = (am_g1 h a0 9 30).bind (fun v => am_E P 89 4 [l0] (v :: s) h)) ∧
  (∀ (P : Nat × Nat) (l0 : Option Value) (x0 : Int32) (s : List Value) (h : am_H), am_E P 89 4 [l0] (.int x0 :: s) h = if x0 = 0 then am_E P 89 12 [l0] s h else am_E P 89 7 [l0] s h) ∧
  (∀ (P : Nat × Nat) (l0 : Option Value) (s : List Value) (h : am_H), am_E P 89 7 [l0] s h = am_E P 89 9 [l0] (.int (-5) :: s) h) ∧
  (∀ (P : Nat × Nat) (l0 : Option Value) (s : List Value) (h : am_H), am_E P 89 9 [l0] s h = am_E P 89 16 [l0] s h) ∧
  (∀ (P : Nat × Nat) (a0 : Nat) (s : List Value) (h : am_H), am_E P 89 12 [some (.ref a0)] s h = am_E P 89 13 [some (.ref a0)] (.ref a0 :: s) h) ∧
  (∀ (P : Nat × Nat) (s : List Value) (h : am_H), am_E P 89 12 [some .null] s h = am_E P 89 13 [some .null] (.null :: s) h) ∧
  (∀ (P : Nat × Nat) (l0 : Option Value) (a0 : Nat) (h : am_H), am_E P 89 13 [l0] [.ref a0] h = if am_cls h a0 = some 9 then (am_E P 90 0 [some (.ref a0), none, none, none, none, none] [] h).bind (fun q => am_E P 89 16 [l0] (q.1.toList ++ []) q.2) else none) ∧
  (∀ (P : Nat × Nat) (l0 : Option Value) (x0 : Int32) (h : am_H), am_E P 89 16 [l0] [.int x0] h = some (some (.int x0), h)) :=
  ⟨fun _ _ _ _ => er_go rfl rfl,
  fun _ _ _ => er_go rfl rfl,
  fun _ _ _ _ _ => er_get1 rfl,
  fun _ _ _ _ _ => er_if_eq rfl,
  fun _ _ _ _ => er_go rfl rfl,
  fun _ _ _ _ => er_go rfl rfl,
  fun _ _ _ _ => er_go rfl rfl,
  fun _ _ _ => er_go rfl rfl,
  fun _ _ _ _ => er_callV rfl rfl rfl rfl,
  fun _ _ _ _ => er_ret rfl rfl⟩
set_option maxRecDepth 100000 in
/-- TwoStepOutputsModel.shown()I -/
theorem r90 : (∀ (P : Nat × Nat) (l0 : Option Value) (l1 : Option Value) (l2 : Option Value) (l3 : Option Value) (l4 : Option Value) (l5 : Option Value) (s : List Value) (h : am_H), am_E P 90 0 [l0, l1, l2, l3, l4, l5] s h = am_E P 90 1 [l0, l1, l2, l3, l4, l5] (.int 0 :: s) h) ∧
  (∀ (P : Nat × Nat) (l0 : Option Value) (l1 : Option Value) (l2 : Option Value) (l3 : Option Value) (l4 : Option Value) (l5 : Option Value) (x0 : Int32) (s : List Value) (h : am_H), am_E P 90 1 [l0, l1, l2, l3, l4, l5] (.int x0 :: s) h = am_E P 90 2 [l0, some (.int x0), l2, l3, l4, l5] s h) ∧
  (∀ (P : Nat × Nat) (l0 : Option Value) (l1 : Option Value) (l2 : Option Value) (l3 : Option Value) (l4 : Option Value) (l5 : Option Value) (s : List Value) (h : am_H), am_E P 90 2 [l0, l1, l2, l3, l4, l5] s h = am_E P 90 3 [l0, l1, l2, l3, l4, l5] (.int 0 :: s) h) ∧
  (∀ (P : Nat × Nat) (l0 : Option Value) (l1 : Option Value) (l2 : Option Value) (l3 : Option Value) (l4 : Option Value) (l5 : Option Value) (x0 : Int32) (s : List Value) (h : am_H), am_E P 90 3 [l0, l1, l2, l3, l4, l5] (.int x0 :: s) h = am_E P 90 4 [l0, l1, some (.int x0), l3, l4, l5] s h) ∧
  (∀ (P : Nat × Nat) (l1 : Option Value) (l2 : Option Value) (l3 : Option Value) (l4 : Option Value) (l5 : Option Value) (a0 : Nat) (s : List Value) (h : am_H), am_E P 90 5 [some (.ref a0), l1, l2, l3, l4, l5] s h = am_E P 90 6 [some (.ref a0), l1, l2, l3, l4, l5] (.ref a0 :: s) h) ∧
  (∀ (P : Nat × Nat) (l1 : Option Value) (l2 : Option Value) (l3 : Option Value) (l4 : Option Value) (l5 : Option Value) (s : List Value) (h : am_H), am_E P 90 5 [some .null, l1, l2, l3, l4, l5] s h = am_E P 90 6 [some .null, l1, l2, l3, l4, l5] (.null :: s) h) ∧
  (∀ (P : Nat × Nat) (l0 : Option Value) (l1 : Option Value) (l2 : Option Value) (l3 : Option Value) (l4 : Option Value) (l5 : Option Value) (a0 : Nat) (s : List Value) (h : am_H), am_E P 90 6 [l0, l1, l2, l3, l4, l5] (.ref a0 :: s) h = (am_g1 h a0 9 0).bind (fun v => am_E P 90 9 [l0, l1, l2, l3, l4, l5] (v :: s) h)) ∧
  (∀ (P : Nat × Nat) (l0 : Option Value) (l1 : Option Value) (l2 : Option Value) (l3 : Option Value) (l4 : Option Value) (l5 : Option Value) (x0 : Int32) (x1 : Int32) (s : List Value) (h : am_H), am_E P 90 9 [l0, l1, l2, l3, l4, l5] (.int x1 :: .int x0 :: s) h = if x1 ≤ x0 then am_E P 90 134 [l0, l1, l2, l3, l4, l5] s h else am_E P 90 12 [l0, l1, l2, l3, l4, l5] s h) ∧
  (∀ (P : Nat × Nat) (l0 : Option Value) (l1 : Option Value) (l2 : Option Value) (l3 : Option Value) (l4 : Option Value) (l5 : Option Value) (s : List Value) (h : am_H), am_E P 90 12 [l0, l1, l2, l3, l4, l5] s h = am_E P 90 13 [l0, l1, l2, l3, l4, l5] (.int 0 :: s) h) ∧
  (∀ (P : Nat × Nat) (l0 : Option Value) (l1 : Option Value) (l2 : Option Value) (l3 : Option Value) (l4 : Option Value) (l5 : Option Value) (x0 : Int32) (s : List Value) (h : am_H), am_E P 90 13 [l0, l1, l2, l3, l4, l5] (.int x0 :: s) h = am_E P 90 14 [l0, l1, l2, some (.int x0), l4, l5] s h) ∧
  (∀ (P : Nat × Nat) (l0 : Option Value) (l1 : Option Value) (l2 : Option Value) (l3 : Option Value) (l4 : Option Value) (l5 : Option Value) (s : List Value) (h : am_H), am_E P 90 14 [l0, l1, l2, l3, l4, l5] s h = am_E P 90 15 [l0, l1, l2, l3, l4, l5] (.int 0 :: s) h) ∧
  (∀ (P : Nat × Nat) (l0 : Option Value) (l1 : Option Value) (l2 : Option Value) (l3 : Option Value) (l4 : Option Value) (l5 : Option Value) (x0 : Int32) (s : List Value) (h : am_H), am_E P 90 15 [l0, l1, l2, l3, l4, l5] (.int x0 :: s) h = am_E P 90 17 [l0, l1, l2, l3, some (.int x0), l5] s h) ∧
  (∀ (P : Nat × Nat) (l1 : Option Value) (l2 : Option Value) (l3 : Option Value) (l4 : Option Value) (l5 : Option Value) (a0 : Nat) (s : List Value) (h : am_H), am_E P 90 19 [some (.ref a0), l1, l2, l3, l4, l5] s h = am_E P 90 20 [some (.ref a0), l1, l2, l3, l4, l5] (.ref a0 :: s) h) ∧
  (∀ (P : Nat × Nat) (l1 : Option Value) (l2 : Option Value) (l3 : Option Value) (l4 : Option Value) (l5 : Option Value) (s : List Value) (h : am_H), am_E P 90 19 [some .null, l1, l2, l3, l4, l5] s h = am_E P 90 20 [some .null, l1, l2, l3, l4, l5] (.null :: s) h) ∧
  (∀ (P : Nat × Nat) (l0 : Option Value) (l1 : Option Value) (l2 : Option Value) (l3 : Option Value) (l4 : Option Value) (l5 : Option Value) (a0 : Nat) (s : List Value) (h : am_H), am_E P 90 20 [l0, l1, l2, l3, l4, l5] (.ref a0 :: s) h = (am_g1 h a0 9 5).bind (fun v => am_E P 90 23 [l0, l1, l2, l3, l4, l5] (v :: s) h)) ∧
  (∀ (P : Nat × Nat) (l0 : Option Value) (l1 : Option Value) (l3 : Option Value) (l4 : Option Value) (l5 : Option Value) (x0 : Int32) (s : List Value) (h : am_H), am_E P 90 23 [l0, l1, some (.int x0), l3, l4, l5] s h = am_E P 90 24 [l0, l1, some (.int x0), l3, l4, l5] (.int x0 :: s) h) ∧
  (∀ (P : Nat × Nat) (l0 : Option Value) (l1 : Option Value) (l2 : Option Value) (l3 : Option Value) (l4 : Option Value) (l5 : Option Value) (x0 : Int32) (a0 : Nat) (s : List Value) (h : am_H), am_E P 90 24 [l0, l1, l2, l3, l4, l5] (.int x0 :: .ref a0 :: s) h = (am_iald h a0 x0).bind (fun v => am_E P 90 25 [l0, l1, l2, l3, l4, l5] (.int v :: s) h)) ∧
  (∀ (P : Nat × Nat) (l0 : Option Value) (l1 : Option Value) (l2 : Option Value) (l3 : Option Value) (l4 : Option Value) (l5 : Option Value) (x0 : Int32) (x1 : Int32) (s : List Value) (h : am_H), am_E P 90 25 [l0, l1, l2, l3, l4, l5] (.int x1 :: .int x0 :: s) h = if x1 ≤ x0 then am_E P 90 128 [l0, l1, l2, l3, l4, l5] s h else am_E P 90 28 [l0, l1, l2, l3, l4, l5] s h) ∧
  (∀ (P : Nat × Nat) (l0 : Option Value) (l1 : Option Value) (l2 : Option Value) (l4 : Option Value) (l5 : Option Value) (x0 : Int32) (s : List Value) (h : am_H), am_E P 90 28 [l0, l1, l2, some (.int x0), l4, l5] s h = am_E P 90 29 [l0, l1, l2, some (.int x0), l4, l5] (.int x0 :: s) h) ∧
  (∀ (P : Nat × Nat) (l0 : Option Value) (l1 : Option Value) (l2 : Option Value) (l3 : Option Value) (l4 : Option Value) (l5 : Option Value) (x0 : Int32) (s : List Value) (h : am_H), am_E P 90 29 [l0, l1, l2, l3, l4, l5] (.int x0 :: s) h = if x0 = 0 then am_E P 90 32 [l0, l1, l2, l3, l4, l5] s h else am_E P 90 128 [l0, l1, l2, l3, l4, l5] s h) ∧
  (∀ (P : Nat × Nat) (l1 : Option Value) (l2 : Option Value) (l3 : Option Value) (l4 : Option Value) (l5 : Option Value) (a0 : Nat) (s : List Value) (h : am_H), am_E P 90 32 [some (.ref a0), l1, l2, l3, l4, l5] s h = am_E P 90 33 [some (.ref a0), l1, l2, l3, l4, l5] (.ref a0 :: s) h) ∧
  (∀ (P : Nat × Nat) (l1 : Option Value) (l2 : Option Value) (l3 : Option Value) (l4 : Option Value) (l5 : Option Value) (s : List Value) (h : am_H), am_E P 90 32 [some .null, l1, l2, l3, l4, l5] s h = am_E P 90 33 [some .null, l1, l2, l3, l4, l5] (.null :: s) h) ∧
  (∀ (P : Nat × Nat) (l0 : Option Value) (l1 : Option Value) (l2 : Option Value) (l3 : Option Value) (l4 : Option Value) (l5 : Option Value) (a0 : Nat) (s : List Value) (h : am_H), am_E P 90 33 [l0, l1, l2, l3, l4, l5] (.ref a0 :: s) h = (am_g1 h a0 9 25).bind (fun v => am_E P 90 36 [l0, l1, l2, l3, l4, l5] (v :: s) h)) ∧
  (∀ (P : Nat × Nat) (l0 : Option Value) (l1 : Option Value) (l2 : Option Value) (l3 : Option Value) (l4 : Option Value) (l5 : Option Value) (s : List Value) (h : am_H), am_E P 90 36 [l0, l1, l2, l3, l4, l5] s h = am_E P 90 38 [l0, l1, l2, l3, l4, l5] (.int (-6) :: s) h) ∧
  (∀ (P : Nat × Nat) (l0 : Option Value) (l1 : Option Value) (l2 : Option Value) (l3 : Option Value) (l4 : Option Value) (l5 : Option Value) (x0 : Int32) (x1 : Int32) (s : List Value) (h : am_H), am_E P 90 38 [l0, l1, l2, l3, l4, l5] (.int x1 :: .int x0 :: s) h = if x0 = x1 then am_E P 90 122 [l0, l1, l2, l3, l4, l5] s h else am_E P 90 41 [l0, l1, l2, l3, l4, l5] s h) ∧
  (∀ (P : Nat × Nat) (l1 : Option Value) (l2 : Option Value) (l3 : Option Value) (l4 : Option Value) (l5 : Option Value) (a0 : Nat) (s : List Value) (h : am_H), am_E P 90 41 [some (.ref a0), l1, l2, l3, l4, l5] s h = am_E P 90 42 [some (.ref a0), l1, l2, l3, l4, l5] (.ref a0 :: s) h) ∧
  (∀ (P : Nat × Nat) (l1 : Option Value) (l2 : Option Value) (l3 : Option Value) (l4 : Option Value) (l5 : Option Value) (s : List Value) (h : am_H), am_E P 90 41 [some .null, l1, l2, l3, l4, l5] s h = am_E P 90 42 [some .null, l1, l2, l3, l4, l5] (.null :: s) h) ∧
  (∀ (P : Nat × Nat) (l0 : Option Value) (l1 : Option Value) (l3 : Option Value) (l4 : Option Value) (l5 : Option Value) (x0 : Int32) (s : List Value) (h : am_H), am_E P 90 42 [l0, l1, some (.int x0), l3, l4, l5] s h = am_E P 90 43 [l0, l1, some (.int x0), l3, l4, l5] (.int x0 :: s) h) ∧
  (∀ (P : Nat × Nat) (l0 : Option Value) (l1 : Option Value) (l2 : Option Value) (l3 : Option Value) (l5 : Option Value) (x0 : Int32) (s : List Value) (h : am_H), am_E P 90 43 [l0, l1, l2, l3, some (.int x0), l5] s h = am_E P 90 45 [l0, l1, l2, l3, some (.int x0), l5] (.int x0 :: s) h) ∧
  (∀ (P : Nat × Nat) (l0 : Option Value) (l1 : Option Value) (l2 : Option Value) (l3 : Option Value) (l4 : Option Value) (l5 : Option Value) (a0 : Nat) (x0 : Int32) (x1 : Int32) (h : am_H), am_E P 90 45 [l0, l1, l2, l3, l4, l5] [.int x1, .int x0, .ref a0] h = if am_cls h a0 = some 9 then (am_E P 80 0 [some (.ref a0), some (.int x0), some (.int x1), none, none] [] h).bind (fun q => am_E P 90 48 [l0, l1, l2, l3, l4, l5] (q.1.toList ++ []) q.2) else none) ∧
  (∀ (P : Nat × Nat) (l0 : Option Value) (l1 : Option Value) (l2 : Option Value) (l3 : Option Value) (l4 : Option Value) (l5 : Option Value) (s : List Value) (h : am_H), am_E P 90 48 [l0, l1, l2, l3, l4, l5] s h = am_E P 90 49 [l0, l1, l2, l3, l4, l5] (.int 1 :: s) h) ∧
  (∀ (P : Nat × Nat) (l0 : Option Value) (l1 : Option Value) (l2 : Option Value) (l3 : Option Value) (l4 : Option Value) (l5 : Option Value) (x0 : Int32) (x1 : Int32) (s : List Value) (h : am_H), am_E P 90 49 [l0, l1, l2, l3, l4, l5] (.int x1 :: .int x0 :: s) h = if x0 = x1 then am_E P 90 52 [l0, l1, l2, l3, l4, l5] s h else am_E P 90 122 [l0, l1, l2, l3, l4, l5] s h) ∧
  (∀ (P : Nat × Nat) (l1 : Option Value) (l2 : Option Value) (l3 : Option Value) (l4 : Option Value) (l5 : Option Value) (a0 : Nat) (s : List Value) (h : am_H), am_E P 90 52 [some (.ref a0), l1, l2, l3, l4, l5] s h = am_E P 90 53 [some (.ref a0), l1, l2, l3, l4, l5] (.ref a0 :: s) h) ∧
  (∀ (P : Nat × Nat) (l1 : Option Value) (l2 : Option Value) (l3 : Option Value) (l4 : Option Value) (l5 : Option Value) (s : List Value) (h : am_H), am_E P 90 52 [some .null, l1, l2, l3, l4, l5] s h = am_E P 90 53 [some .null, l1, l2, l3, l4, l5] (.null :: s) h) ∧
  (∀ (P : Nat × Nat) (l0 : Option Value) (l1 : Option Value) (l3 : Option Value) (l4 : Option Value) (l5 : Option Value) (x0 : Int32) (s : List Value) (h : am_H), am_E P 90 53 [l0, l1, some (.int x0), l3, l4, l5] s h = am_E P 90 54 [l0, l1, some (.int x0), l3, l4, l5] (.int x0 :: s) h) ∧
  (∀ (P : Nat × Nat) (l0 : Option Value) (l1 : Option Value) (l2 : Option Value) (l3 : Option Value) (l5 : Option Value) (x0 : Int32) (s : List Value) (h : am_H), am_E P 90 54 [l0, l1, l2, l3, some (.int x0), l5] s h = am_E P 90 56 [l0, l1, l2, l3, some (.int x0), l5] (.int x0 :: s) h) ∧
  (∀ (P : Nat × Nat) (l0 : Option Value) (l1 : Option Value) (l2 : Option Value) (l3 : Option Value) (l4 : Option Value) (l5 : Option Value) (a0 : Nat) (x0 : Int32) (x1 : Int32) (h : am_H), am_E P 90 56 [l0, l1, l2, l3, l4, l5] [.int x1, .int x0, .ref a0] h = if am_cls h a0 = some 9 then (am_E P 81 0 [some (.ref a0), some (.int x0), some (.int x1), none] [] h).bind (fun q => am_E P 90 59 [l0, l1, l2, l3, l4, l5] (q.1.toList ++ []) q.2) else none) ∧
  (∀ (P : Nat × Nat) (l1 : Option Value) (l2 : Option Value) (l3 : Option Value) (l4 : Option Value) (l5 : Option Value) (a0 : Nat) (s : List Value) (h : am_H), am_E P 90 59 [some (.ref a0), l1, l2, l3, l4, l5] s h = am_E P 90 60 [some (.ref a0), l1, l2, l3, l4, l5] (.ref a0 :: s) h) ∧
  (∀ (P : Nat × Nat) (l1 : Option Value) (l2 : Option Value) (l3 : Option Value) (l4 : Option Value) (l5 : Option Value) (s : List Value) (h : am_H), am_E P 90 59 [some .null, l1, l2, l3, l4, l5] s h = am_E P 90 60 [some .null, l1, l2, l3, l4, l5] (.null :: s) h) ∧
  (∀ (P : Nat × Nat) (l0 : Option Value) (l1 : Option Value) (l2 : Option Value) (l3 : Option Value) (l4 : Option Value) (l5 : Option Value) (a0 : Nat) (s : List Value) (h : am_H), am_E P 90 60 [l0, l1, l2, l3, l4, l5] (.ref a0 :: s) h = (am_g1 h a0 9 25).bind (fun v => am_E P 90 63 [l0, l1, l2, l3, l4, l5] (v :: s) h)) ∧
  (∀ (P : Nat × Nat) (l0 : Option Value) (l1 : Option Value) (l2 : Option Value) (l3 : Option Value) (l4 : Option Value) (l5 : Option Value) (x0 : Int32) (x1 : Int32) (s : List Value) (h : am_H), am_E P 90 63 [l0, l1, l2, l3, l4, l5] (.int x1 :: .int x0 :: s) h = if x1 < x0 then am_E P 90 122 [l0, l1, l2, l3, l4, l5] s h else am_E P 90 66 [l0, l1, l2, l3, l4, l5] s h) ∧
  (∀ (P : Nat × Nat) (l1 : Option Value) (l2 : Option Value) (l3 : Option Value) (l4 : Option Value) (l5 : Option Value) (a0 : Nat) (s : List Value) (h : am_H), am_E P 90 66 [some (.ref a0), l1, l2, l3, l4, l5] s h = am_E P 90 67 [some (.ref a0), l1, l2, l3, l4, l5] (.ref a0 :: s) h) ∧
  (∀ (P : Nat × Nat) (l1 : Option Value) (l2 : Option Value) (l3 : Option Value) (l4 : Option Value) (l5 : Option Value) (s : List Value) (h : am_H), am_E P 90 66 [some .null, l1, l2, l3, l4, l5] s h = am_E P 90 67 [some .null, l1, l2, l3, l4, l5] (.null :: s) h) ∧
  (∀ (P : Nat × Nat) (l0 : Option Value) (l1 : Option Value) (l2 : Option Value) (l3 : Option Value) (l4 : Option Value) (l5 : Option Value) (a0 : Nat) (s : List Value) (h : am_H), am_E P 90 67 [l0, l1, l2, l3, l4, l5] (.ref a0 :: s) h = (am_g1 h a0 9 6).bind (fun v => am_E P 90 70 [l0, l1, l2, l3, l4, l5] (v :: s) h)) ∧
  (∀ (P : Nat × Nat) (l0 : Option Value) (l1 : Option Value) (l3 : Option Value) (l4 : Option Value) (l5 : Option Value) (x0 : Int32) (s : List Value) (h : am_H), am_E P 90 70 [l0, l1, some (.int x0), l3, l4, l5] s h = am_E P 90 71 [l0, l1, some (.int x0), l3, l4, l5] (.int x0 :: s) h) ∧
  (∀ (P : Nat × Nat) (l0 : Option Value) (l1 : Option Value) (l2 : Option Value) (l3 : Option Value) (l4 : Option Value) (l5 : Option Value) (x0 : Int32) (a0 : Nat) (s : List Value) (h : am_H), am_E P 90 71 [l0, l1, l2, l3, l4, l5] (.int x0 :: .ref a0 :: s) h = am_E P 90 72 [l0, l1, l2, l3, l4, l5] (.int x0 :: .ref a0 :: .int x0 :: .ref a0 :: s) h) ∧
  (∀ (P : Nat × Nat) (l0 : Option Value) (l1 : Option Value) (l2 : Option Value) (l3 : Option Value) (l4 : Option Value) (l5 : Option Value) (x0 : Int32) (a0 : Nat) (s : List Value) (h : am_H), am_E P 90 72 [l0, l1, l2, l3, l4, l5] (.int x0 :: .ref a0 :: s) h = (am_iald h a0 x0).bind (fun v => am_E P 90 73 [l0, l1, l2, l3, l4, l5] (.int v :: s) h)) ∧
  (∀ (P : Nat × Nat) (l0 : Option Value) (l1 : Option Value) (l2 : Option Value) (l3 : Option Value) (l4 : Option Value) (l5 : Option Value) (s : List Value) (h : am_H), am_E P 90 73 [l0, l1, l2, l3, l4, l5] s h = am_E P 90 74 [l0, l1, l2, l3, l4, l5] (.int 1 :: s) h) ∧
  (∀ (P : Nat × Nat) (l0 : Option Value) (l1 : Option Value) (l2 : Option Value) (l3 : Option Value) (l4 : Option Value) (l5 : Option Value) (x0 : Int32) (x1 : Int32) (s : List Value) (h : am_H), am_E P 90 74 [l0, l1, l2, l3, l4, l5] (.int x1 :: .int x0 :: s) h = am_E P 90 75 [l0, l1, l2, l3, l4, l5] (.int (x0 + x1) :: s) h) ∧
  (∀ (P : Nat × Nat) (l0 : Option Value) (l1 : Option Value) (l2 : Option Value) (l3 : Option Value) (l4 : Option Value) (l5 : Option Value) (x0 : Int32) (x1 : Int32) (a0 : Nat) (s : List Value) (h : am_H), am_E P 90 75 [l0, l1, l2, l3, l4, l5] (.int x1 :: .int x0 :: .ref a0 :: s) h = (am_iast h a0 x0 x1).bind (fun h => am_E P 90 76 [l0, l1, l2, l3, l4, l5] s h)) ∧
  (∀ (P : Nat × Nat) (l1 : Option Value) (l2 : Option Value) (l3 : Option Value) (l4 : Option Value) (l5 : Option Value) (a0 : Nat) (s : List Value) (h : am_H), am_E P 90 76 [some (.ref a0), l1, l2, l3, l4, l5] s h = am_E P 90 77 [some (.ref a0), l1, l2, l3, l4, l5] (.ref a0 :: s) h) ∧
  (∀ (P : Nat × Nat) (l1 : Option Value) (l2 : Option Value) (l3 : Option Value) (l4 : Option Value) (l5 : Option Value) (s : List Value) (h : am_H), am_E P 90 76 [some .null, l1, l2, l3, l4, l5] s h = am_E P 90 77 [some .null, l1, l2, l3, l4, l5] (.null :: s) h) ∧
  (∀ (P : Nat × Nat) (l0 : Option Value) (l1 : Option Value) (l2 : Option Value) (l3 : Option Value) (l4 : Option Value) (l5 : Option Value) (a0 : Nat) (s : List Value) (h : am_H), am_E P 90 77 [l0, l1, l2, l3, l4, l5] (.ref a0 :: s) h = (am_g1 h a0 9 7).bind (fun v => am_E P 90 80 [l0, l1, l2, l3, l4, l5] (v :: s) h)) ∧
  (∀ (P : Nat × Nat) (l0 : Option Value) (l1 : Option Value) (l3 : Option Value) (l4 : Option Value) (l5 : Option Value) (x0 : Int32) (s : List Value) (h : am_H), am_E P 90 80 [l0, l1, some (.int x0), l3, l4, l5] s h = am_E P 90 81 [l0, l1, some (.int x0), l3, l4, l5] (.int x0 :: s) h) ∧
  (∀ (P : Nat × Nat) (l0 : Option Value) (l1 : Option Value) (l2 : Option Value) (l3 : Option Value) (l4 : Option Value) (l5 : Option Value) (x0 : Int32) (a0 : Nat) (s : List Value) (h : am_H), am_E P 90 81 [l0, l1, l2, l3, l4, l5] (.int x0 :: .ref a0 :: s) h = (am_iald h a0 x0).bind (fun v => am_E P 90 82 [l0, l1, l2, l3, l4, l5] (.int v :: s) h)) ∧
  (∀ (P : Nat × Nat) (l0 : Option Value) (l1 : Option Value) (l2 : Option Value) (l3 : Option Value) (l4 : Option Value) (l5 : Option Value) (x0 : Int32) (s : List Value) (h : am_H), am_E P 90 82 [l0, l1, l2, l3, l4, l5] (.int x0 :: s) h = if x0 ≤ 0 then am_E P 90 100 [l0, l1, l2, l3, l4, l5] s h else am_E P 90 85 [l0, l1, l2, l3, l4, l5] s h) ∧
  (∀ (P : Nat × Nat) (l1 : Option Value) (l2 : Option Value) (l3 : Option Value) (l4 : Option Value) (l5 : Option Value) (a0 : Nat) (s : List Value) (h : am_H), am_E P 90 85 [some (.ref a0), l1, l2, l3, l4, l5] s h = am_E P 90 86 [some (.ref a0), l1, l2, l3, l4, l5] (.ref a0 :: s) h) ∧
  (∀ (P : Nat × Nat) (l1 : Option Value) (l2 : Option Value) (l3 : Option Value) (l4 : Option Value) (l5 : Option Value) (s : List Value) (h : am_H), am_E P 90 85 [some .null, l1, l2, l3, l4, l5] s h = am_E P 90 86 [some .null, l1, l2, l3, l4, l5] (.null :: s) h) ∧
  (∀ (P : Nat × Nat) (l0 : Option Value) (l1 : Option Value) (l2 : Option Value) (l3 : Option Value) (l4 : Option Value) (l5 : Option Value) (a0 : Nat) (s : List Value) (h : am_H), am_E P 90 86 [l0, l1, l2, l3, l4, l5] (.ref a0 :: s) h = (am_g1 h a0 9 7).bind (fun v => am_E P 90 89 [l0, l1, l2, l3, l4, l5] (v :: s) h)) ∧
  (∀ (P : Nat × Nat) (l0 : Option Value) (l1 : Option Value) (l3 : Option Value) (l4 : Option Value) (l5 : Option Value) (x0 : Int32) (s : List Value) (h : am_H), am_E P 90 89 [l0, l1, some (.int x0), l3, l4, l5] s h = am_E P 90 90 [l0, l1, some (.int x0), l3, l4, l5] (.int x0 :: s) h) ∧
  (∀ (P : Nat × Nat) (l0 : Option Value) (l1 : Option Value) (l2 : Option Value) (l3 : Option Value) (l4 : Option Value) (l5 : Option Value) (x0 : Int32) (a0 : Nat) (s : List Value) (h : am_H), am_E P 90 90 [l0, l1, l2, l3, l4, l5] (.int x0 :: .ref a0 :: s) h = am_E P 90 91 [l0, l1, l2, l3, l4, l5] (.int x0 :: .ref a0 :: .int x0 :: .ref a0 :: s) h) ∧
  (∀ (P : Nat × Nat) (l0 : Option Value) (l1 : Option Value) (l2 : Option Value) (l3 : Option Value) (l4 : Option Value) (l5 : Option Value) (x0 : Int32) (a0 : Nat) (s : List Value) (h : am_H), am_E P 90 91 [l0, l1, l2, l3, l4, l5] (.int x0 :: .ref a0 :: s) h = (am_iald h a0 x0).bind (fun v => am_E P 90 92 [l0, l1, l2, l3, l4, l5] (.int v :: s) h)) ∧
  (∀ (P : Nat × Nat) (l0 : Option Value) (l1 : Option Value) (l2 : Option Value) (l3 : Option Value) (l4 : Option Value) (l5 : Option Value) (s : List Value) (h : am_H), am_E P 90 92 [l0, l1, l2, l3, l4, l5] s h = am_E P 90 93 [l0, l1, l2, l3, l4, l5] (.int 1 :: s) h) ∧
  (∀ (P : Nat × Nat) (l0 : Option Value) (l1 : Option Value) (l2 : Option Value) (l3 : Option Value) (l4 : Option Value) (l5 : Option Value) (x0 : Int32) (x1 : Int32) (s : List Value) (h : am_H), am_E P 90 93 [l0, l1, l2, l3, l4, l5] (.int x1 :: .int x0 :: s) h = am_E P 90 94 [l0, l1, l2, l3, l4, l5] (.int (x0 - x1) :: s) h) ∧
  (∀ (P : Nat × Nat) (l0 : Option Value) (l1 : Option Value) (l2 : Option Value) (l3 : Option Value) (l4 : Option Value) (l5 : Option Value) (x0 : Int32) (x1 : Int32) (a0 : Nat) (s : List Value) (h : am_H), am_E P 90 94 [l0, l1, l2, l3, l4, l5] (.int x1 :: .int x0 :: .ref a0 :: s) h = (am_iast h a0 x0 x1).bind (fun h => am_E P 90 95 [l0, l1, l2, l3, l4, l5] s h)) ∧
  (∀ (P : Nat × Nat) (l0 : Option Value) (l1 : Option Value) (l2 : Option Value) (l3 : Option Value) (l4 : Option Value) (l5 : Option Value) (s : List Value) (h : am_H), am_E P 90 95 [l0, l1, l2, l3, l4, l5] s h = am_E P 90 96 [l0, l1, l2, l3, l4, l5] (.int 1 :: s) h) ∧
  (∀ (P : Nat × Nat) (l0 : Option Value) (l1 : Option Value) (l2 : Option Value) (l3 : Option Value) (l4 : Option Value) (l5 : Option Value) (x0 : Int32) (s : List Value) (h : am_H), am_E P 90 96 [l0, l1, l2, l3, l4, l5] (.int x0 :: s) h = am_E P 90 97 [l0, l1, l2, some (.int x0), l4, l5] s h) ∧
  (∀ (P : Nat × Nat) (l0 : Option Value) (l1 : Option Value) (l2 : Option Value) (l3 : Option Value) (l4 : Option Value) (l5 : Option Value) (s : List Value) (h : am_H), am_E P 90 97 [l0, l1, l2, l3, l4, l5] s h = am_E P 90 122 [l0, l1, l2, l3, l4, l5] s h) ∧
  (∀ (P : Nat × Nat) (l1 : Option Value) (l2 : Option Value) (l3 : Option Value) (l4 : Option Value) (l5 : Option Value) (a0 : Nat) (s : List Value) (h : am_H), am_E P 90 100 [some (.ref a0), l1, l2, l3, l4, l5] s h = am_E P 90 101 [some (.ref a0), l1, l2, l3, l4, l5] (.ref a0 :: s) h) ∧
  (∀ (P : Nat × Nat) (l1 : Option Value) (l2 : Option Value) (l3 : Option Value) (l4 : Option Value) (l5 : Option Value) (s : List Value) (h : am_H), am_E P 90 100 [some .null, l1, l2, l3, l4, l5] s h = am_E P 90 101 [some .null, l1, l2, l3, l4, l5] (.null :: s) h) ∧
  (∀ (P : Nat × Nat) (l0 : Option Value) (l1 : Option Value) (l3 : Option Value) (l4 : Option Value) (l5 : Option Value) (x0 : Int32) (s : List Value) (h : am_H), am_E P 90 101 [l0, l1, some (.int x0), l3, l4, l5] s h = am_E P 90 102 [l0, l1, some (.int x0), l3, l4, l5] (.int x0 :: s) h) ∧
  (∀ (P : Nat × Nat) (l0 : Option Value) (l1 : Option Value) (l2 : Option Value) (l3 : Option Value) (l5 : Option Value) (x0 : Int32) (s : List Value) (h : am_H), am_E P 90 102 [l0, l1, l2, l3, some (.int x0), l5] s h = am_E P 90 104 [l0, l1, l2, l3, some (.int x0), l5] (.int x0 :: s) h) ∧
  (∀ (P : Nat × Nat) (l0 : Option Value) (l1 : Option Value) (l2 : Option Value) (l3 : Option Value) (l4 : Option Value) (l5 : Option Value) (a0 : Nat) (x0 : Int32) (x1 : Int32) (h : am_H), am_E P 90 104 [l0, l1, l2, l3, l4, l5] [.int x1, .int x0, .ref a0] h = if am_cls h a0 = some 9 then (am_E P 91 0 [some (.ref a0), some (.int x0), some (.int x1), none, none, none, none] [] h).bind (fun q => am_E P 90 107 [l0, l1, l2, l3, l4, l5] (q.1.toList ++ []) q.2) else none) ∧
  (∀ (P : Nat × Nat) (l0 : Option Value) (l1 : Option Value) (l2 : Option Value) (l3 : Option Value) (l4 : Option Value) (l5 : Option Value) (x0 : Int32) (s : List Value) (h : am_H), am_E P 90 107 [l0, l1, l2, l3, l4, l5] (.int x0 :: s) h = am_E P 90 109 [l0, l1, l2, l3, l4, some (.int x0)] s h) ∧
  (∀ (P : Nat × Nat) (l0 : Option Value) (l1 : Option Value) (l2 : Option Value) (l3 : Option Value) (l4 : Option Value) (x0 : Int32) (s : List Value) (h : am_H), am_E P 90 109 [l0, l1, l2, l3, l4, some (.int x0)] s h = am_E P 90 111 [l0, l1, l2, l3, l4, some (.int x0)] (.int x0 :: s) h) ∧
  (∀ (P : Nat × Nat) (l0 : Option Value) (l1 : Option Value) (l2 : Option Value) (l3 : Option Value) (l4 : Option Value) (l5 : Option Value) (x0 : Int32) (s : List Value) (h : am_H), am_E P 90 111 [l0, l1, l2, l3, l4, l5] (.int x0 :: s) h = if 0 ≤ x0 then am_E P 90 117 [l0, l1, l2, l3, l4, l5] s h else am_E P 90 114 [l0, l1, l2, l3, l4, l5] s h) ∧
  (∀ (P : Nat × Nat) (l0 : Option Value) (l1 : Option Value) (l2 : Option Value) (l3 : Option Value) (l4 : Option Value) (l5 : Option Value) (s : List Value) (h : am_H), am_E P 90 114 [l0, l1, l2, l3, l4, l5] s h = am_E P 90 116 [l0, l1, l2, l3, l4, l5] (.int (-5) :: s) h) ∧
  (∀ (P : Nat × Nat) (l0 : Option Value) (l1 : Option Value) (l2 : Option Value) (l3 : Option Value) (l4 : Option Value) (l5 : Option Value) (x0 : Int32) (h : am_H), am_E P 90 116 [l0, l1, l2, l3, l4, l5] [.int x0] h = some (some (.int x0), h)) ∧
  (∀ (P : Nat × Nat) (l0 : Option Value) (l2 : Option Value) (l3 : Option Value) (l4 : Option Value) (l5 : Option Value) (x0 : Int32) (s : List Value) (h : am_H), am_E P 90 117 [l0, some (.int x0), l2, l3, l4, l5] s h = am_E P 90 118 [l0, some (.int x0), l2, l3, l4, l5] (.int x0 :: s) h) ∧
  (∀ (P : Nat × Nat) (l0 : Option Value) (l1 : Option Value) (l2 : Option Value) (l3 : Option Value) (l4 : Option Value) (x0 : Int32) (s : List Value) (h : am_H), am_E P 90 118 [l0, l1, l2, l3, l4, some (.int x0)] s h = am_E P 90 120 [l0, l1, l2, l3, l4, some (.int x0)] (.int x0 :: s) h) ∧
  (∀ (P : Nat × Nat) (l0 : Option Value) (l1 : Option Value) (l2 : Option Value) (l3 : Option Value) (l4 : Option Value) (l5 : Option Value) (x0 : Int32) (x1 : Int32) (s : List Value) (h : am_H), am_E P 90 120 [l0, l1, l2, l3, l4, l5] (.int x1 :: .int x0 :: s) h = am_E P 90 121 [l0, l1, l2, l3, l4, l5] (.int (x0 + x1) :: s) h) ∧
  (∀ (P : Nat × Nat) (l0 : Option Value) (l1 : Option Value) (l2 : Option Value) (l3 : Option Value) (l4 : Option Value) (l5 : Option Value) (x0 : Int32) (s : List Value) (h : am_H), am_E P 90 121 [l0, l1, l2, l3, l4, l5] (.int x0 :: s) h = am_E P 90 122 [l0, some (.int x0), l2, l3, l4, l5] s h) ∧
  (∀ (P : Nat × Nat) (l0 : Option Value) (l1 : Option Value) (l2 : Option Value) (l3 : Option Value) (l5 : Option Value) (x0 : Int32) (s : List Value) (h : am_H), am_E P 90 122 [l0, l1, l2, l3, some (.int x0), l5] s h = am_E P 90 125 [l0, l1, l2, l3, some (.int (x0 + 1)), l5] s h) ∧
  (∀ (P : Nat × Nat) (l0 : Option Value) (l1 : Option Value) (l2 : Option Value) (l3 : Option Value) (l4 : Option Value) (l5 : Option Value) (s : List Value) (h : am_H), am_E P 90 125 [l0, l1, l2, l3, l4, l5] s h = am_E P 90 17 [l0, l1, l2, l3, l4, l5] s h) ∧
  (∀ (P : Nat × Nat) (l0 : Option Value) (l1 : Option Value) (l3 : Option Value) (l4 : Option Value) (l5 : Option Value) (x0 : Int32) (s : List Value) (h : am_H), am_E P 90 128 [l0, l1, some (.int x0), l3, l4, l5] s h = am_E P 90 131 [l0, l1, some (.int (x0 + 1)), l3, l4, l5] s h) ∧
  (∀ (P : Nat × Nat) (l0 : Option Value) (l1 : Option Value) (l2 : Option Value) (l3 : Option Value) (l4 : Option Value) (l5 : Option Value) (s : List Value) (h : am_H), am_E P 90 131 [l0, l1, l2, l3, l4, l5] s h = am_E P 90 4 [l0, l1, l2, l3, l4, l5] s h) ∧
  (∀ (P : Nat × Nat) (l0 : Option Value) (l2 : Option Value) (l3 : Option Value) (l4 : Option Value) (l5 : Option Value) (x0 : Int32) (s : List Value) (h : am_H), am_E P 90 134 [l0, some (.int x0), l2, l3, l4, l5] s h = am_E P 90 135 [l0, some (.int x0), l2, l3, l4, l5] (.int x0 :: s) h) ∧
  (∀ (P : Nat × Nat) (l0 : Option Value) (l1 : Option Value) (l2 : Option Value) (l3 : Option Value) (l4 : Option Value) (l5 : Option Value) (x0 : Int32) (h : am_H), am_E P 90 135 [l0, l1, l2, l3, l4, l5] [.int x0] h = some (some (.int x0), h)) :=
  ⟨fun _ _ _ _ _ _ _ _ _ => er_go rfl rfl,
  fun _ _ _ _ _ _ _ _ _ _ => er_go rfl rfl,
  fun _ _ _ _ _ _ _ _ _ => er_go rfl rfl,
  fun _ _ _ _ _ _ _ _ _ _ => er_go rfl rfl,
  fun _ _ _ _ _ _ _ _ _ => er_go rfl rfl,
  fun _ _ _ _ _ _ _ _ => er_go rfl rfl,
  fun _ _ _ _ _ _ _ _ _ _ => er_get1 rfl,
  fun _ _ _ _ _ _ _ _ _ _ _ => er_ic_ge rfl,
  fun _ _ _ _ _ _ _ _ _ => er_go rfl rfl,
  fun _ _ _ _ _ _ _ _ _ _ => er_go rfl rfl,
  fun _ _ _ _ _ _ _ _ _ => er_go rfl rfl,
  fun _ _ _ _ _ _ _ _ _ _ => er_go rfl rfl,
  fun _ _ _ _ _ _ _ _ _ => er_go rfl rfl,
  fun _ _ _ _ _ _ _ _ => er_go rfl rfl,
  fun _ _ _ _ _ _ _ _ _ _ => er_get1 rfl,
  fun _ _ _ _ _ _ _ _ _ => er_go rfl rfl,
  fun _ _ _ _ _ _ _ _ _ _ _ => er_iald rfl,
  fun _ _ _ _ _ _ _ _ _ _ _ => er_ic_ge rfl,
  fun _ _ _ _ _ _ _ _ _ => er_go rfl rfl,
  fun _ _ _ _ _ _ _ _ _ _ => er_if_ne rfl,
  fun _ _ _ _ _ _ _ _ _ => er_go rfl rfl,
  fun _ _ _ _ _ _ _ _ => er_go rfl rfl,
  fun _ _ _ _ _ _ _ _ _ _ => er_get1 rfl,
  fun _ _ _ _ _ _ _ _ _ => er_go rfl rfl,
  fun _ _ _ _ _ _ _ _ _ _ _ => er_ic_eq rfl,
  fun _ _ _ _ _ _ _ _ _ => er_go rfl rfl,
  fun _ _ _ _ _ _ _ _ => er_go rfl rfl,
  fun _ _ _ _ _ _ _ _ _ => er_go rfl rfl,
  fun _ _ _ _ _ _ _ _ _ => er_go rfl rfl,
  fun _ _ _ _ _ _ _ _ _ _ _ => er_callV rfl rfl rfl rfl,
  fun _ _ _ _ _ _ _ _ _ => er_go rfl rfl,
  fun _ _ _ _ _ _ _ _ _ _ _ => er_ic_ne rfl,
  fun _ _ _ _ _ _ _ _ _ => er_go rfl rfl,
  fun _ _ _ _ _ _ _ _ => er_go rfl rfl,
  fun _ _ _ _ _ _ _ _ _ => er_go rfl rfl,
  fun _ _ _ _ _ _ _ _ _ => er_go rfl rfl,
  fun _ _ _ _ _ _ _ _ _ _ _ => er_callV rfl rfl rfl rfl,
  fun _ _ _ _ _ _ _ _ _ => er_go rfl rfl,
  fun _ _ _ _ _ _ _ _ => er_go rfl rfl,
  fun _ _ _ _ _ _ _ _ _ _ => er_get1 rfl,
  fun _ _ _ _ _ _ _ _ _ _ _ => er_ic_gt rfl,
  fun _ _ _ _ _ _ _ _ _ => er_go rfl rfl,
  fun _ _ _ _ _ _ _ _ => er_go rfl rfl,
  fun _ _ _ _ _ _ _ _ _ _ => er_get1 rfl,
  fun _ _ _ _ _ _ _ _ _ => er_go rfl rfl,
  fun _ _ _ _ _ _ _ _ _ _ _ => er_go rfl rfl,
  fun _ _ _ _ _ _ _ _ _ _ _ => er_iald rfl,
  fun _ _ _ _ _ _ _ _ _ => er_go rfl rfl,
  fun _ _ _ _ _ _ _ _ _ _ _ => er_go rfl rfl,
  fun _ _ _ _ _ _ _ _ _ _ _ _ => er_iast rfl,
  fun _ _ _ _ _ _ _ _ _ => er_go rfl rfl,
  fun _ _ _ _ _ _ _ _ => er_go rfl rfl,
  fun _ _ _ _ _ _ _ _ _ _ => er_get1 rfl,
  fun _ _ _ _ _ _ _ _ _ => er_go rfl rfl,
  fun _ _ _ _ _ _ _ _ _ _ _ => er_iald rfl,
  fun _ _ _ _ _ _ _ _ _ _ => er_if_le rfl,
  fun _ _ _ _ _ _ _ _ _ => er_go rfl rfl,
  fun _ _ _ _ _ _ _ _ => er_go rfl rfl,
  fun _ _ _ _ _ _ _ _ _ _ => er_get1 rfl,
  fun _ _ _ _ _ _ _ _ _ => er_go rfl rfl,
  fun _ _ _ _ _ _ _ _ _ _ _ => er_go rfl rfl,
  fun _ _ _ _ _ _ _ _ _ _ _ => er_iald rfl,
  fun _ _ _ _ _ _ _ _ _ => er_go rfl rfl,
  fun _ _ _ _ _ _ _ _ _ _ _ => er_go rfl rfl,
  fun _ _ _ _ _ _ _ _ _ _ _ _ => er_iast rfl,
  fun _ _ _ _ _ _ _ _ _ => er_go rfl rfl,
  fun _ _ _ _ _ _ _ _ _ _ => er_go rfl rfl,
  fun _ _ _ _ _ _ _ _ _ => er_go rfl rfl,
  fun _ _ _ _ _ _ _ _ _ => er_go rfl rfl,
  fun _ _ _ _ _ _ _ _ => er_go rfl rfl,
  fun _ _ _ _ _ _ _ _ _ => er_go rfl rfl,
  fun _ _ _ _ _ _ _ _ _ => er_go rfl rfl,
  fun _ _ _ _ _ _ _ _ _ _ _ => er_callV rfl rfl rfl rfl,
  fun _ _ _ _ _ _ _ _ _ _ => er_go rfl rfl,
  fun _ _ _ _ _ _ _ _ _ => er_go rfl rfl,
  fun _ _ _ _ _ _ _ _ _ _ => er_if_ge rfl,
  fun _ _ _ _ _ _ _ _ _ => er_go rfl rfl,
  fun _ _ _ _ _ _ _ _ _ => er_ret rfl rfl,
  fun _ _ _ _ _ _ _ _ _ => er_go rfl rfl,
  fun _ _ _ _ _ _ _ _ _ => er_go rfl rfl,
  fun _ _ _ _ _ _ _ _ _ _ _ => er_go rfl rfl,
  fun _ _ _ _ _ _ _ _ _ _ => er_go rfl rfl,
  fun _ _ _ _ _ _ _ _ _ => er_go rfl rfl,
  fun _ _ _ _ _ _ _ _ _ => er_go rfl rfl,
  fun _ _ _ _ _ _ _ _ _ => er_go rfl rfl,
  fun _ _ _ _ _ _ _ _ _ => er_go rfl rfl,
  fun _ _ _ _ _ _ _ _ _ => er_go rfl rfl,
  fun _ _ _ _ _ _ _ _ _ => er_ret rfl rfl⟩
set_option maxRecDepth 100000 in
theorem hd90_4 : ∀ (P : Nat × Nat) (l0 : Option Value) (l1 : Option Value) (l3 : Option Value) (l4 : Option Value) (l5 : Option Value) (x0 : Int32) (s : List Value) (h : am_H), am_E P 90 4 [l0, l1, some (.int x0), l3, l4, l5] s h = am_E P 90 5 [l0, l1, some (.int x0), l3, l4, l5] (.int x0 :: s) h := fun _ _ _ _ _ _ _ _ _ => er_go rfl rfl
set_option maxRecDepth 100000 in
theorem hd90_17 : ∀ (P : Nat × Nat) (l0 : Option Value) (l1 : Option Value) (l2 : Option Value) (l3 : Option Value) (l5 : Option Value) (x0 : Int32) (s : List Value) (h : am_H), am_E P 90 17 [l0, l1, l2, l3, some (.int x0), l5] s h = am_E P 90 19 [l0, l1, l2, l3, some (.int x0), l5] (.int x0 :: s) h := fun _ _ _ _ _ _ _ _ _ => er_go rfl rfl
set_option maxRecDepth 100000 in
/-- TwoStepOutputsModel.showPart(II)I -/
theorem r91 : (∀ (P : Nat × Nat) (l0 : Option Value) (l1 : Option Value) (l2 : Option Value) (l3 : Option Value) (l4 : Option Value) (l5 : Option Value) (l6 : Option Value) (s : List Value) (h : am_H), am_E P 91 0 [l0, l1, l2, l3, l4, l5, l6] s h = am_E P 91 1 [l0, l1, l2, l3, l4, l5, l6] (.int 0 :: s) h) ∧
  (∀ (P : Nat × Nat) (l0 : Option Value) (l1 : Option Value) (l2 : Option Value) (l3 : Option Value) (l4 : Option Value) (l5 : Option Value) (l6 : Option Value) (x0 : Int32) (s : List Value) (h : am_H), am_E P 91 1 [l0, l1, l2, l3, l4, l5, l6] (.int x0 :: s) h = am_E P 91 2 [l0, l1, l2, some (.int x0), l4, l5, l6] s h) ∧
  (∀ (P : Nat × Nat) (l0 : Option Value) (l1 : Option Value) (l2 : Option Value) (l3 : Option Value) (l4 : Option Value) (l5 : Option Value) (l6 : Option Value) (s : List Value) (h : am_H), am_E P 91 2 [l0, l1, l2, l3, l4, l5, l6] s h = am_E P 91 3 [l0, l1, l2, l3, l4, l5, l6] (.int 0 :: s) h) ∧
  (∀ (P : Nat × Nat) (l0 : Option Value) (l1 : Option Value) (l2 : Option Value) (l3 : Option Value) (l4 : Option Value) (l5 : Option Value) (l6 : Option Value) (x0 : Int32) (s : List Value) (h : am_H), am_E P 91 3 [l0, l1, l2, l3, l4, l5, l6] (.int x0 :: s) h = am_E P 91 5 [l0, l1, l2, l3, some (.int x0), l5, l6] s h) ∧
  (∀ (P : Nat × Nat) (l1 : Option Value) (l2 : Option Value) (l3 : Option Value) (l4 : Option Value) (l5 : Option Value) (l6 : Option Value) (a0 : Nat) (s : List Value) (h : am_H), am_E P 91 5 [some (.ref a0), l1, l2, l3, l4, l5, l6] s h = am_E P 91 6 [some (.ref a0), l1, l2, l3, l4, l5, l6] (.ref a0 :: s) h) ∧
  (∀ (P : Nat × Nat) (l1 : Option Value) (l2 : Option Value) (l3 : Option Value) (l4 : Option Value) (l5 : Option Value) (l6 : Option Value) (s : List Value) (h : am_H), am_E P 91 5 [some .null, l1, l2, l3, l4, l5, l6] s h = am_E P 91 6 [some .null, l1, l2, l3, l4, l5, l6] (.null :: s) h) ∧
  (∀ (P : Nat × Nat) (l0 : Option Value) (l1 : Option Value) (l2 : Option Value) (l3 : Option Value) (l4 : Option Value) (l5 : Option Value) (l6 : Option Value) (a0 : Nat) (s : List Value) (h : am_H), am_E P 91 6 [l0, l1, l2, l3, l4, l5, l6] (.ref a0 :: s) h = (am_g1 h a0 9 8).bind (fun v => am_E P 91 9 [l0, l1, l2, l3, l4, l5, l6] (v :: s) h)) ∧
  (∀ (P : Nat × Nat) (l0 : Option Value) (l1 : Option Value) (l2 : Option Value) (l3 : Option Value) (l4 : Option Value) (l5 : Option Value) (l6 : Option Value) (x0 : Int32) (s : List Value) (h : am_H), am_E P 91 9 [l0, l1, l2, l3, l4, l5, l6] (.int x0 :: s) h = am_E P 91 11 [l0, l1, l2, l3, l4, some (.int x0), l6] s h) ∧
  (∀ (P : Nat × Nat) (l0 : Option Value) (l1 : Option Value) (l2 : Option Value) (l3 : Option Value) (l4 : Option Value) (l5 : Option Value) (l6 : Option Value) (s : List Value) (h : am_H), am_E P 91 11 [l0, l1, l2, l3, l4, l5, l6] s h = am_E P 91 12 [l0, l1, l2, l3, l4, l5, l6] (.int 0 :: s) h) ∧
  (∀ (P : Nat × Nat) (l0 : Option Value) (l1 : Option Value) (l2 : Option Value) (l3 : Option Value) (l4 : Option Value) (l5 : Option Value) (l6 : Option Value) (x0 : Int32) (s : List Value) (h : am_H), am_E P 91 12 [l0, l1, l2, l3, l4, l5, l6] (.int x0 :: s) h = am_E P 91 14 [l0, l1, l2, l3, l4, l5, some (.int x0)] s h) ∧
  (∀ (P : Nat × Nat) (l0 : Option Value) (l1 : Option Value) (l2 : Option Value) (l3 : Option Value) (l4 : Option Value) (l6 : Option Value) (x0 : Int32) (s : List Value) (h : am_H), am_E P 91 16 [l0, l1, l2, l3, l4, some (.int x0), l6] s h = am_E P 91 18 [l0, l1, l2, l3, l4, some (.int x0), l6] (.int x0 :: s) h) ∧
  (∀ (P : Nat × Nat) (l0 : Option Value) (l1 : Option Value) (l2 : Option Value) (l3 : Option Value) (l4 : Option Value) (l5 : Option Value) (l6 : Option Value) (x0 : Int32) (x1 : Int32) (s : List Value) (h : am_H), am_E P 91 18 [l0, l1, l2, l3, l4, l5, l6] (.int x1 :: .int x0 :: s) h = if x1 ≤ x0 then am_E P 91 107 [l0, l1, l2, l3, l4, l5, l6] s h else am_E P 91 21 [l0, l1, l2, l3, l4, l5, l6] s h) ∧
  (∀ (P : Nat × Nat) (l1 : Option Value) (l2 : Option Value) (l3 : Option Value) (l4 : Option Value) (l5 : Option Value) (l6 : Option Value) (a0 : Nat) (s : List Value) (h : am_H), am_E P 91 21 [some (.ref a0), l1, l2, l3, l4, l5, l6] s h = am_E P 91 22 [some (.ref a0), l1, l2, l3, l4, l5, l6] (.ref a0 :: s) h) ∧
  (∀ (P : Nat × Nat) (l1 : Option Value) (l2 : Option Value) (l3 : Option Value) (l4 : Option Value) (l5 : Option Value) (l6 : Option Value) (s : List Value) (h : am_H), am_E P 91 21 [some .null, l1, l2, l3, l4, l5, l6] s h = am_E P 91 22 [some .null, l1, l2, l3, l4, l5, l6] (.null :: s) h) ∧
  (∀ (P : Nat × Nat) (l0 : Option Value) (l1 : Option Value) (l2 : Option Value) (l3 : Option Value) (l4 : Option Value) (l5 : Option Value) (l6 : Option Value) (a0 : Nat) (s : List Value) (h : am_H), am_E P 91 22 [l0, l1, l2, l3, l4, l5, l6] (.ref a0 :: s) h = (am_g1 h a0 9 9).bind (fun v => am_E P 91 25 [l0, l1, l2, l3, l4, l5, l6] (v :: s) h)) ∧
  (∀ (P : Nat × Nat) (l0 : Option Value) (l1 : Option Value) (l2 : Option Value) (l3 : Option Value) (l4 : Option Value) (l5 : Option Value) (x0 : Int32) (s : List Value) (h : am_H), am_E P 91 25 [l0, l1, l2, l3, l4, l5, some (.int x0)] s h = am_E P 91 27 [l0, l1, l2, l3, l4, l5, some (.int x0)] (.int x0 :: s) h) ∧
  (∀ (P : Nat × Nat) (l0 : Option Value) (l1 : Option Value) (l2 : Option Value) (l3 : Option Value) (l4 : Option Value) (l5 : Option Value) (l6 : Option Value) (x0 : Int32) (a0 : Nat) (s : List Value) (h : am_H), am_E P 91 27 [l0, l1, l2, l3, l4, l5, l6] (.int x0 :: .ref a0 :: s) h = (am_iald h a0 x0).bind (fun v => am_E P 91 28 [l0, l1, l2, l3, l4, l5, l6] (.int v :: s) h)) ∧
  (∀ (P : Nat × Nat) (l0 : Option Value) (l1 : Option Value) (l2 : Option Value) (l3 : Option Value) (l4 : Option Value) (l5 : Option Value) (l6 : Option Value) (x0 : Int32) (s : List Value) (h : am_H), am_E P 91 28 [l0, l1, l2, l3, l4, l5, l6] (.int x0 :: s) h = if x0 = 0 then am_E P 91 31 [l0, l1, l2, l3, l4, l5, l6] s h else am_E P 91 101 [l0, l1, l2, l3, l4, l5, l6] s h) ∧
  (∀ (P : Nat × Nat) (l1 : Option Value) (l2 : Option Value) (l3 : Option Value) (l4 : Option Value) (l5 : Option Value) (l6 : Option Value) (a0 : Nat) (s : List Value) (h : am_H), am_E P 91 31 [some (.ref a0), l1, l2, l3, l4, l5, l6] s h = am_E P 91 32 [some (.ref a0), l1, l2, l3, l4, l5, l6] (.ref a0 :: s) h) ∧
  (∀ (P : Nat × Nat) (l1 : Option Value) (l2 : Option Value) (l3 : Option Value) (l4 : Option Value) (l5 : Option Value) (l6 : Option Value) (s : List Value) (h : am_H), am_E P 91 31 [some .null, l1, l2, l3, l4, l5, l6] s h = am_E P 91 32 [some .null, l1, l2, l3, l4, l5, l6] (.null :: s) h) ∧
  (∀ (P : Nat × Nat) (l0 : Option Value) (l1 : Option Value) (l2 : Option Value) (l3 : Option Value) (l4 : Option Value) (l5 : Option Value) (l6 : Option Value) (a0 : Nat) (s : List Value) (h : am_H), am_E P 91 32 [l0, l1, l2, l3, l4, l5, l6] (.ref a0 :: s) h = (am_g1 h a0 9 10).bind (fun v => am_E P 91 35 [l0, l1, l2, l3, l4, l5, l6] (v :: s) h)) ∧
  (∀ (P : Nat × Nat) (l0 : Option Value) (l1 : Option Value) (l2 : Option Value) (l3 : Option Value) (l4 : Option Value) (l5 : Option Value) (x0 : Int32) (s : List Value) (h : am_H), am_E P 91 35 [l0, l1, l2, l3, l4, l5, some (.int x0)] s h = am_E P 91 37 [l0, l1, l2, l3, l4, l5, some (.int x0)] (.int x0 :: s) h) ∧
  (∀ (P : Nat × Nat) (l0 : Option Value) (l1 : Option Value) (l2 : Option Value) (l3 : Option Value) (l4 : Option Value) (l5 : Option Value) (l6 : Option Value) (x0 : Int32) (a0 : Nat) (s : List Value) (h : am_H), am_E P 91 37 [l0, l1, l2, l3, l4, l5, l6] (.int x0 :: .ref a0 :: s) h = (am_iald h a0 x0).bind (fun v => am_E P 91 38 [l0, l1, l2, l3, l4, l5, l6] (.int v :: s) h)) ∧
  (∀ (P : Nat × Nat) (l0 : Option Value) (l2 : Option Value) (l3 : Option Value) (l4 : Option Value) (l5 : Option Value) (l6 : Option Value) (x0 : Int32) (s : List Value) (h : am_H), am_E P 91 38 [l0, some (.int x0), l2, l3, l4, l5, l6] s h = am_E P 91 39 [l0, some (.int x0), l2, l3, l4, l5, l6] (.int x0 :: s) h) ∧
  (∀ (P : Nat × Nat) (l0 : Option Value) (l1 : Option Value) (l2 : Option Value) (l3 : Option Value) (l4 : Option Value) (l5 : Option Value) (l6 : Option Value) (x0 : Int32) (x1 : Int32) (s : List Value) (h : am_H), am_E P 91 39 [l0, l1, l2, l3, l4, l5, l6] (.int x1 :: .int x0 :: s) h = if x0 = x1 then am_E P 91 42 [l0, l1, l2, l3, l4, l5, l6] s h else am_E P 91 101 [l0, l1, l2, l3, l4, l5, l6] s h) ∧
  (∀ (P : Nat × Nat) (l1 : Option Value) (l2 : Option Value) (l3 : Option Value) (l4 : Option Value) (l5 : Option Value) (l6 : Option Value) (a0 : Nat) (s : List Value) (h : am_H), am_E P 91 42 [some (.ref a0), l1, l2, l3, l4, l5, l6] s h = am_E P 91 43 [some (.ref a0), l1, l2, l3, l4, l5, l6] (.ref a0 :: s) h) ∧
  (∀ (P : Nat × Nat) (l1 : Option Value) (l2 : Option Value) (l3 : Option Value) (l4 : Option Value) (l5 : Option Value) (l6 : Option Value) (s : List Value) (h : am_H), am_E P 91 42 [some .null, l1, l2, l3, l4, l5, l6] s h = am_E P 91 43 [some .null, l1, l2, l3, l4, l5, l6] (.null :: s) h) ∧
  (∀ (P : Nat × Nat) (l0 : Option Value) (l1 : Option Value) (l2 : Option Value) (l3 : Option Value) (l4 : Option Value) (l5 : Option Value) (l6 : Option Value) (a0 : Nat) (s : List Value) (h : am_H), am_E P 91 43 [l0, l1, l2, l3, l4, l5, l6] (.ref a0 :: s) h = (am_g1 h a0 9 11).bind (fun v => am_E P 91 46 [l0, l1, l2, l3, l4, l5, l6] (v :: s) h)) ∧
  (∀ (P : Nat × Nat) (l0 : Option Value) (l1 : Option Value) (l2 : Option Value) (l3 : Option Value) (l4 : Option Value) (l5 : Option Value) (x0 : Int32) (s : List Value) (h : am_H), am_E P 91 46 [l0, l1, l2, l3, l4, l5, some (.int x0)] s h = am_E P 91 48 [l0, l1, l2, l3, l4, l5, some (.int x0)] (.int x0 :: s) h) ∧
  (∀ (P : Nat × Nat) (l0 : Option Value) (l1 : Option Value) (l2 : Option Value) (l3 : Option Value) (l4 : Option Value) (l5 : Option Value) (l6 : Option Value) (x0 : Int32) (a0 : Nat) (s : List Value) (h : am_H), am_E P 91 48 [l0, l1, l2, l3, l4, l5, l6] (.int x0 :: .ref a0 :: s) h = (am_iald h a0 x0).bind (fun v => am_E P 91 49 [l0, l1, l2, l3, l4, l5, l6] (.int v :: s) h)) ∧
  (∀ (P : Nat × Nat) (l0 : Option Value) (l1 : Option Value) (l3 : Option Value) (l4 : Option Value) (l5 : Option Value) (l6 : Option Value) (x0 : Int32) (s : List Value) (h : am_H), am_E P 91 49 [l0, l1, some (.int x0), l3, l4, l5, l6] s h = am_E P 91 50 [l0, l1, some (.int x0), l3, l4, l5, l6] (.int x0 :: s) h) ∧
  (∀ (P : Nat × Nat) (l0 : Option Value) (l1 : Option Value) (l2 : Option Value) (l3 : Option Value) (l4 : Option Value) (l5 : Option Value) (l6 : Option Value) (x0 : Int32) (x1 : Int32) (s : List Value) (h : am_H), am_E P 91 50 [l0, l1, l2, l3, l4, l5, l6] (.int x1 :: .int x0 :: s) h = if x0 = x1 then am_E P 91 53 [l0, l1, l2, l3, l4, l5, l6] s h else am_E P 91 101 [l0, l1, l2, l3, l4, l5, l6] s h) ∧
  (∀ (P : Nat × Nat) (l1 : Option Value) (l2 : Option Value) (l3 : Option Value) (l4 : Option Value) (l5 : Option Value) (l6 : Option Value) (a0 : Nat) (s : List Value) (h : am_H), am_E P 91 53 [some (.ref a0), l1, l2, l3, l4, l5, l6] s h = am_E P 91 54 [some (.ref a0), l1, l2, l3, l4, l5, l6] (.ref a0 :: s) h) ∧
  (∀ (P : Nat × Nat) (l1 : Option Value) (l2 : Option Value) (l3 : Option Value) (l4 : Option Value) (l5 : Option Value) (l6 : Option Value) (s : List Value) (h : am_H), am_E P 91 53 [some .null, l1, l2, l3, l4, l5, l6] s h = am_E P 91 54 [some .null, l1, l2, l3, l4, l5, l6] (.null :: s) h) ∧
  (∀ (P : Nat × Nat) (l0 : Option Value) (l1 : Option Value) (l2 : Option Value) (l3 : Option Value) (l4 : Option Value) (l5 : Option Value) (l6 : Option Value) (a0 : Nat) (h : am_H), am_E P 91 54 [l0, l1, l2, l3, l4, l5, l6] [.ref a0] h = if am_cls h a0 = some 9 then (am_E P 76 0 [some (.ref a0)] [] h).bind (fun q => am_E P 91 57 [l0, l1, l2, l3, l4, l5, l6] (q.1.toList ++ []) q.2) else none) ∧
  (∀ (P : Nat × Nat) (l0 : Option Value) (l1 : Option Value) (l2 : Option Value) (l3 : Option Value) (l4 : Option Value) (l5 : Option Value) (l6 : Option Value) (x0 : Int32) (s : List Value) (h : am_H), am_E P 91 57 [l0, l1, l2, l3, l4, l5, l6] (.int x0 :: s) h = if x0 = 0 then am_E P 91 60 [l0, l1, l2, l3, l4, l5, l6] s h else am_E P 91 63 [l0, l1, l2, l3, l4, l5, l6] s h) ∧
  (∀ (P : Nat × Nat) (l0 : Option Value) (l1 : Option Value) (l2 : Option Value) (l3 : Option Value) (l4 : Option Value) (l5 : Option Value) (l6 : Option Value) (s : List Value) (h : am_H), am_E P 91 60 [l0, l1, l2, l3, l4, l5, l6] s h = am_E P 91 62 [l0, l1, l2, l3, l4, l5, l6] (.int (-5) :: s) h) ∧
  (∀ (P : Nat × Nat) (l0 : Option Value) (l1 : Option Value) (l2 : Option Value) (l3 : Option Value) (l4 : Option Value) (l5 : Option Value) (l6 : Option Value) (x0 : Int32) (h : am_H), am_E P 91 62 [l0, l1, l2, l3, l4, l5, l6] [.int x0] h = some (some (.int x0), h)) ∧
  (∀ (P : Nat × Nat) (l0 : Option Value) (l1 : Option Value) (l2 : Option Value) (l4 : Option Value) (l5 : Option Value) (l6 : Option Value) (x0 : Int32) (s : List Value) (h : am_H), am_E P 91 63 [l0, l1, l2, some (.int x0), l4, l5, l6] s h = am_E P 91 64 [l0, l1, l2, some (.int x0), l4, l5, l6] (.int x0 :: s) h) ∧
  (∀ (P : Nat × Nat) (l1 : Option Value) (l2 : Option Value) (l3 : Option Value) (l4 : Option Value) (l5 : Option Value) (l6 : Option Value) (a0 : Nat) (s : List Value) (h : am_H), am_E P 91 64 [some (.ref a0), l1, l2, l3, l4, l5, l6] s h = am_E P 91 65 [some (.ref a0), l1, l2, l3, l4, l5, l6] (.ref a0 :: s) h) ∧
  (∀ (P : Nat × Nat) (l1 : Option Value) (l2 : Option Value) (l3 : Option Value) (l4 : Option Value) (l5 : Option Value) (l6 : Option Value) (s : List Value) (h : am_H), am_E P 91 64 [some .null, l1, l2, l3, l4, l5, l6] s h = am_E P 91 65 [some .null, l1, l2, l3, l4, l5, l6] (.null :: s) h) ∧
  (∀ (P : Nat × Nat) (l0 : Option Value) (l1 : Option Value) (l2 : Option Value) (l3 : Option Value) (l4 : Option Value) (l5 : Option Value) (l6 : Option Value) (a0 : Nat) (s : List Value) (h : am_H), am_E P 91 65 [l0, l1, l2, l3, l4, l5, l6] (.ref a0 :: s) h = (am_g1 h a0 9 1).bind (fun v => am_E P 91 68 [l0, l1, l2, l3, l4, l5, l6] (v :: s) h)) ∧
  (∀ (P : Nat × Nat) (l0 : Option Value) (l2 : Option Value) (l3 : Option Value) (l4 : Option Value) (l5 : Option Value) (l6 : Option Value) (x0 : Int32) (s : List Value) (h : am_H), am_E P 91 68 [l0, some (.int x0), l2, l3, l4, l5, l6] s h = am_E P 91 69 [l0, some (.int x0), l2, l3, l4, l5, l6] (.int x0 :: s) h) ∧
  (∀ (P : Nat × Nat) (l0 : Option Value) (l1 : Option Value) (l2 : Option Value) (l3 : Option Value) (l4 : Option Value) (l5 : Option Value) (l6 : Option Value) (x0 : Int32) (a0 : Nat) (s : List Value) (h : am_H), am_E P 91 69 [l0, l1, l2, l3, l4, l5, l6] (.int x0 :: .ref a0 :: s) h = (am_iald h a0 x0).bind (fun v => am_E P 91 70 [l0, l1, l2, l3, l4, l5, l6] (.int v :: s) h)) ∧
  (∀ (P : Nat × Nat) (l0 : Option Value) (l1 : Option Value) (l2 : Option Value) (l3 : Option Value) (l4 : Option Value) (l5 : Option Value) (l6 : Option Value) (x0 : Int32) (s : List Value) (h : am_H), am_E P 91 70 [l0, l1, l2, l3, l4, l5, l6] (.int x0 :: s) h = if x0 = 0 then am_E P 91 73 [l0, l1, l2, l3, l4, l5, l6] s h else am_E P 91 86 [l0, l1, l2, l3, l4, l5, l6] s h) ∧
  (∀ (P : Nat × Nat) (l1 : Option Value) (l2 : Option Value) (l3 : Option Value) (l4 : Option Value) (l5 : Option Value) (l6 : Option Value) (a0 : Nat) (s : List Value) (h : am_H), am_E P 91 73 [some (.ref a0), l1, l2, l3, l4, l5, l6] s h = am_E P 91 74 [some (.ref a0), l1, l2, l3, l4, l5, l6] (.ref a0 :: s) h) ∧
  (∀ (P : Nat × Nat) (l1 : Option Value) (l2 : Option Value) (l3 : Option Value) (l4 : Option Value) (l5 : Option Value) (l6 : Option Value) (s : List Value) (h : am_H), am_E P 91 73 [some .null, l1, l2, l3, l4, l5, l6] s h = am_E P 91 74 [some .null, l1, l2, l3, l4, l5, l6] (.null :: s) h) ∧
  (∀ (P : Nat × Nat) (l0 : Option Value) (l2 : Option Value) (l3 : Option Value) (l4 : Option Value) (l5 : Option Value) (l6 : Option Value) (x0 : Int32) (s : List Value) (h : am_H), am_E P 91 74 [l0, some (.int x0), l2, l3, l4, l5, l6] s h = am_E P 91 75 [l0, some (.int x0), l2, l3, l4, l5, l6] (.int x0 :: s) h) ∧
  (∀ (P : Nat × Nat) (l0 : Option Value) (l1 : Option Value) (l3 : Option Value) (l4 : Option Value) (l5 : Option Value) (l6 : Option Value) (x0 : Int32) (s : List Value) (h : am_H), am_E P 91 75 [l0, l1, some (.int x0), l3, l4, l5, l6] s h = am_E P 91 76 [l0, l1, some (.int x0), l3, l4, l5, l6] (.int x0 :: s) h) ∧
  (∀ (P : Nat × Nat) (l0 : Option Value) (l1 : Option Value) (l2 : Option Value) (l3 : Option Value) (l5 : Option Value) (l6 : Option Value) (x0 : Int32) (s : List Value) (h : am_H), am_E P 91 76 [l0, l1, l2, l3, some (.int x0), l5, l6] s h = am_E P 91 78 [l0, l1, l2, l3, some (.int x0), l5, l6] (.int x0 :: s) h) ∧
  (∀ (P : Nat × Nat) (l0 : Option Value) (l1 : Option Value) (l2 : Option Value) (l3 : Option Value) (l4 : Option Value) (l5 : Option Value) (x0 : Int32) (s : List Value) (h : am_H), am_E P 91 78 [l0, l1, l2, l3, l4, l5, some (.int x0)] s h = am_E P 91 80 [l0, l1, l2, l3, l4, l5, some (.int x0)] (.int x0 :: s) h) ∧
  (∀ (P : Nat × Nat) (l0 : Option Value) (l1 : Option Value) (l2 : Option Value) (l3 : Option Value) (l4 : Option Value) (l5 : Option Value) (l6 : Option Value) (a0 : Nat) (x0 : Int32) (x1 : Int32) (x2 : Int32) (x3 : Int32) (v0 : Value) (h : am_H), am_E P 91 80 [l0, l1, l2, l3, l4, l5, l6] [.int x3, .int x2, .int x1, .int x0, .ref a0, v0] h = if am_cls h a0 = some 9 then (am_E P 92 0 [some (.ref a0), some (.int x0), some (.int x1), some (.int x2), some (.int x3), none, none] [] h).bind (fun q => am_E P 91 83 [l0, l1, l2, l3, l4, l5, l6] (q.1.toList ++ [v0]) q.2) else none) ∧
  (∀ (P : Nat × Nat) (l0 : Option Value) (l1 : Option Value) (l2 : Option Value) (l3 : Option Value) (l4 : Option Value) (l5 : Option Value) (l6 : Option Value) (s : List Value) (h : am_H), am_E P 91 83 [l0, l1, l2, l3, l4, l5, l6] s h = am_E P 91 96 [l0, l1, l2, l3, l4, l5, l6] s h) ∧
  (∀ (P : Nat × Nat) (l1 : Option Value) (l2 : Option Value) (l3 : Option Value) (l4 : Option Value) (l5 : Option Value) (l6 : Option Value) (a0 : Nat) (s : List Value) (h : am_H), am_E P 91 86 [some (.ref a0), l1, l2, l3, l4, l5, l6] s h = am_E P 91 87 [some (.ref a0), l1, l2, l3, l4, l5, l6] (.ref a0 :: s) h) ∧
  (∀ (P : Nat × Nat) (l1 : Option Value) (l2 : Option Value) (l3 : Option Value) (l4 : Option Value) (l5 : Option Value) (l6 : Option Value) (s : List Value) (h : am_H), am_E P 91 86 [some .null, l1, l2, l3, l4, l5, l6] s h = am_E P 91 87 [some .null, l1, l2, l3, l4, l5, l6] (.null :: s) h) ∧
  (∀ (P : Nat × Nat) (l0 : Option Value) (l2 : Option Value) (l3 : Option Value) (l4 : Option Value) (l5 : Option Value) (l6 : Option Value) (x0 : Int32) (s : List Value) (h : am_H), am_E P 91 87 [l0, some (.int x0), l2, l3, l4, l5, l6] s h = am_E P 91 88 [l0, some (.int x0), l2, l3, l4, l5, l6] (.int x0 :: s) h) ∧
  (∀ (P : Nat × Nat) (l0 : Option Value) (l1 : Option Value) (l3 : Option Value) (l4 : Option Value) (l5 : Option Value) (l6 : Option Value) (x0 : Int32) (s : List Value) (h : am_H), am_E P 91 88 [l0, l1, some (.int x0), l3, l4, l5, l6] s h = am_E P 91 89 [l0, l1, some (.int x0), l3, l4, l5, l6] (.int x0 :: s) h) ∧
  (∀ (P : Nat × Nat) (l0 : Option Value) (l1 : Option Value) (l2 : Option Value) (l3 : Option Value) (l5 : Option Value) (l6 : Option Value) (x0 : Int32) (s : List Value) (h : am_H), am_E P 91 89 [l0, l1, l2, l3, some (.int x0), l5, l6] s h = am_E P 91 91 [l0, l1, l2, l3, some (.int x0), l5, l6] (.int x0 :: s) h) ∧
  (∀ (P : Nat × Nat) (l0 : Option Value) (l1 : Option Value) (l2 : Option Value) (l3 : Option Value) (l4 : Option Value) (l5 : Option Value) (x0 : Int32) (s : List Value) (h : am_H), am_E P 91 91 [l0, l1, l2, l3, l4, l5, some (.int x0)] s h = am_E P 91 93 [l0, l1, l2, l3, l4, l5, some (.int x0)] (.int x0 :: s) h) ∧
  (∀ (P : Nat × Nat) (l0 : Option Value) (l1 : Option Value) (l2 : Option Value) (l3 : Option Value) (l4 : Option Value) (l5 : Option Value) (l6 : Option Value) (a0 : Nat) (x0 : Int32) (x1 : Int32) (x2 : Int32) (x3 : Int32) (v0 : Value) (h : am_H), am_E P 91 93 [l0, l1, l2, l3, l4, l5, l6] [.int x3, .int x2, .int x1, .int x0, .ref a0, v0] h = if am_cls h a0 = some 9 then (am_E P 93 0 [some (.ref a0), some (.int x0), some (.int x1), some (.int x2), some (.int x3), none] [] h).bind (fun q => am_E P 91 96 [l0, l1, l2, l3, l4, l5, l6] (q.1.toList ++ [v0]) q.2) else none) ∧
  (∀ (P : Nat × Nat) (l0 : Option Value) (l1 : Option Value) (l2 : Option Value) (l3 : Option Value) (l4 : Option Value) (l5 : Option Value) (l6 : Option Value) (x0 : Int32) (x1 : Int32) (s : List Value) (h : am_H), am_E P 91 96 [l0, l1, l2, l3, l4, l5, l6] (.int x1 :: .int x0 :: s) h = am_E P 91 97 [l0, l1, l2, l3, l4, l5, l6] (.int (x0 + x1) :: s) h) ∧
  (∀ (P : Nat × Nat) (l0 : Option Value) (l1 : Option Value) (l2 : Option Value) (l3 : Option Value) (l4 : Option Value) (l5 : Option Value) (l6 : Option Value) (x0 : Int32) (s : List Value) (h : am_H), am_E P 91 97 [l0, l1, l2, l3, l4, l5, l6] (.int x0 :: s) h = am_E P 91 98 [l0, l1, l2, some (.int x0), l4, l5, l6] s h) ∧
  (∀ (P : Nat × Nat) (l0 : Option Value) (l1 : Option Value) (l2 : Option Value) (l3 : Option Value) (l5 : Option Value) (l6 : Option Value) (x0 : Int32) (s : List Value) (h : am_H), am_E P 91 98 [l0, l1, l2, l3, some (.int x0), l5, l6] s h = am_E P 91 101 [l0, l1, l2, l3, some (.int (x0 + 1)), l5, l6] s h) ∧
  (∀ (P : Nat × Nat) (l0 : Option Value) (l1 : Option Value) (l2 : Option Value) (l3 : Option Value) (l4 : Option Value) (l5 : Option Value) (x0 : Int32) (s : List Value) (h : am_H), am_E P 91 101 [l0, l1, l2, l3, l4, l5, some (.int x0)] s h = am_E P 91 104 [l0, l1, l2, l3, l4, l5, some (.int (x0 + 1))] s h) ∧
  (∀ (P : Nat × Nat) (l0 : Option Value) (l1 : Option Value) (l2 : Option Value) (l3 : Option Value) (l4 : Option Value) (l5 : Option Value) (l6 : Option Value) (s : List Value) (h : am_H), am_E P 91 104 [l0, l1, l2, l3, l4, l5, l6] s h = am_E P 91 14 [l0, l1, l2, l3, l4, l5, l6] s h) ∧
  (∀ (P : Nat × Nat) (l1 : Option Value) (l2 : Option Value) (l3 : Option Value) (l4 : Option Value) (l5 : Option Value) (l6 : Option Value) (a0 : Nat) (s : List Value) (h : am_H), am_E P 91 107 [some (.ref a0), l1, l2, l3, l4, l5, l6] s h = am_E P 91 108 [some (.ref a0), l1, l2, l3, l4, l5, l6] (.ref a0 :: s) h) ∧
  (∀ (P : Nat × Nat) (l1 : Option Value) (l2 : Option Value) (l3 : Option Value) (l4 : Option Value) (l5 : Option Value) (l6 : Option Value) (s : List Value) (h : am_H), am_E P 91 107 [some .null, l1, l2, l3, l4, l5, l6] s h = am_E P 91 108 [some .null, l1, l2, l3, l4, l5, l6] (.null :: s) h) ∧
  (∀ (P : Nat × Nat) (l0 : Option Value) (l1 : Option Value) (l2 : Option Value) (l3 : Option Value) (l4 : Option Value) (l5 : Option Value) (l6 : Option Value) (s : List Value) (h : am_H), am_E P 91 108 [l0, l1, l2, l3, l4, l5, l6] s h = am_E P 91 109 [l0, l1, l2, l3, l4, l5, l6] (.int 3 :: s) h) ∧
  (∀ (P : Nat × Nat) (l0 : Option Value) (l2 : Option Value) (l3 : Option Value) (l4 : Option Value) (l5 : Option Value) (l6 : Option Value) (x0 : Int32) (s : List Value) (h : am_H), am_E P 91 109 [l0, some (.int x0), l2, l3, l4, l5, l6] s h = am_E P 91 110 [l0, some (.int x0), l2, l3, l4, l5, l6] (.int x0 :: s) h) ∧
  (∀ (P : Nat × Nat) (l0 : Option Value) (l1 : Option Value) (l3 : Option Value) (l4 : Option Value) (l5 : Option Value) (l6 : Option Value) (x0 : Int32) (s : List Value) (h : am_H), am_E P 91 110 [l0, l1, some (.int x0), l3, l4, l5, l6] s h = am_E P 91 111 [l0, l1, some (.int x0), l3, l4, l5, l6] (.int x0 :: s) h) ∧
  (∀ (P : Nat × Nat) (l0 : Option Value) (l1 : Option Value) (l2 : Option Value) (l3 : Option Value) (l4 : Option Value) (l5 : Option Value) (l6 : Option Value) (s : List Value) (h : am_H), am_E P 91 111 [l0, l1, l2, l3, l4, l5, l6] s h = am_E P 91 113 [l0, l1, l2, l3, l4, l5, l6] (.int (-6) :: s) h) ∧
  (∀ (P : Nat × Nat) (l0 : Option Value) (l1 : Option Value) (l2 : Option Value) (l3 : Option Value) (l4 : Option Value) (l5 : Option Value) (l6 : Option Value) (s : List Value) (h : am_H), am_E P 91 113 [l0, l1, l2, l3, l4, l5, l6] s h = am_E P 91 115 [l0, l1, l2, l3, l4, l5, l6] (.int (-6) :: s) h) ∧
  (∀ (P : Nat × Nat) (l0 : Option Value) (l1 : Option Value) (l2 : Option Value) (l3 : Option Value) (l4 : Option Value) (l5 : Option Value) (l6 : Option Value) (a0 : Nat) (x0 : Int32) (x1 : Int32) (x2 : Int32) (x3 : Int32) (x4 : Int32) (h : am_H), am_E P 91 115 [l0, l1, l2, l3, l4, l5, l6] [.int x4, .int x3, .int x2, .int x1, .int x0, .ref a0] h = if am_cls h a0 = some 9 then (am_E P 78 0 [some (.ref a0), some (.int x0), some (.int x1), some (.int x2), some (.int x3), some (.int x4)] [] h).bind (fun q => am_E P 91 118 [l0, l1, l2, l3, l4, l5, l6] (q.1.toList ++ []) q.2) else none) ∧
  (∀ (P : Nat × Nat) (l0 : Option Value) (l1 : Option Value) (l2 : Option Value) (l3 : Option Value) (l4 : Option Value) (l5 : Option Value) (l6 : Option Value) (x0 : Int32) (s : List Value) (h : am_H), am_E P 91 118 [l0, l1, l2, l3, l4, l5, l6] (.int x0 :: s) h = if x0 = 0 then am_E P 91 121 [l0, l1, l2, l3, l4, l5, l6] s h else am_E P 91 124 [l0, l1, l2, l3, l4, l5, l6] s h) ∧
  (∀ (P : Nat × Nat) (l0 : Option Value) (l1 : Option Value) (l2 : Option Value) (l3 : Option Value) (l4 : Option Value) (l5 : Option Value) (l6 : Option Value) (s : List Value) (h : am_H), am_E P 91 121 [l0, l1, l2, l3, l4, l5, l6] s h = am_E P 91 123 [l0, l1, l2, l3, l4, l5, l6] (.int (-5) :: s) h) ∧
  (∀ (P : Nat × Nat) (l0 : Option Value) (l1 : Option Value) (l2 : Option Value) (l3 : Option Value) (l4 : Option Value) (l5 : Option Value) (l6 : Option Value) (x0 : Int32) (h : am_H), am_E P 91 123 [l0, l1, l2, l3, l4, l5, l6] [.int x0] h = some (some (.int x0), h)) ∧
  (∀ (P : Nat × Nat) (l1 : Option Value) (l2 : Option Value) (l3 : Option Value) (l4 : Option Value) (l5 : Option Value) (l6 : Option Value) (a0 : Nat) (s : List Value) (h : am_H), am_E P 91 124 [some (.ref a0), l1, l2, l3, l4, l5, l6] s h = am_E P 91 125 [some (.ref a0), l1, l2, l3, l4, l5, l6] (.ref a0 :: s) h) ∧
  (∀ (P : Nat × Nat) (l1 : Option Value) (l2 : Option Value) (l3 : Option Value) (l4 : Option Value) (l5 : Option Value) (l6 : Option Value) (s : List Value) (h : am_H), am_E P 91 124 [some .null, l1, l2, l3, l4, l5, l6] s h = am_E P 91 125 [some .null, l1, l2, l3, l4, l5, l6] (.null :: s) h) ∧
  (∀ (P : Nat × Nat) (l0 : Option Value) (l1 : Option Value) (l2 : Option Value) (l3 : Option Value) (l4 : Option Value) (l5 : Option Value) (l6 : Option Value) (a0 : Nat) (s : List Value) (h : am_H), am_E P 91 125 [l0, l1, l2, l3, l4, l5, l6] (.ref a0 :: s) h = am_E P 91 126 [l0, l1, l2, l3, l4, l5, l6] (.ref a0 :: .ref a0 :: s) h) ∧
  (∀ (P : Nat × Nat) (l0 : Option Value) (l1 : Option Value) (l2 : Option Value) (l3 : Option Value) (l4 : Option Value) (l5 : Option Value) (l6 : Option Value) (a0 : Nat) (s : List Value) (h : am_H), am_E P 91 126 [l0, l1, l2, l3, l4, l5, l6] (.ref a0 :: s) h = (am_g1 h a0 9 33).bind (fun v => am_E P 91 129 [l0, l1, l2, l3, l4, l5, l6] (v :: s) h)) ∧
  (∀ (P : Nat × Nat) (l0 : Option Value) (l1 : Option Value) (l2 : Option Value) (l3 : Option Value) (l4 : Option Value) (l5 : Option Value) (l6 : Option Value) (s : List Value) (h : am_H), am_E P 91 129 [l0, l1, l2, l3, l4, l5, l6] s h = am_E P 91 130 [l0, l1, l2, l3, l4, l5, l6] (.int 1 :: s) h) ∧
  (∀ (P : Nat × Nat) (l0 : Option Value) (l1 : Option Value) (l2 : Option Value) (l3 : Option Value) (l4 : Option Value) (l5 : Option Value) (l6 : Option Value) (x0 : Int32) (x1 : Int32) (s : List Value) (h : am_H), am_E P 91 130 [l0, l1, l2, l3, l4, l5, l6] (.int x1 :: .int x0 :: s) h = am_E P 91 131 [l0, l1, l2, l3, l4, l5, l6] (.int (x0 + x1) :: s) h) ∧
  (∀ (P : Nat × Nat) (l0 : Option Value) (l1 : Option Value) (l2 : Option Value) (l3 : Option Value) (l4 : Option Value) (l5 : Option Value) (l6 : Option Value) (a0 : Nat) (x0 : Int32) (s : List Value) (h : am_H), am_E P 91 131 [l0, l1, l2, l3, l4, l5, l6] (.int x0 :: .ref a0 :: s) h = (am_p1 h a0 9 33 (.int x0)).bind (fun h => am_E P 91 134 [l0, l1, l2, l3, l4, l5, l6] s h)) ∧
  (∀ (P : Nat × Nat) (l0 : Option Value) (l1 : Option Value) (l2 : Option Value) (l4 : Option Value) (l5 : Option Value) (l6 : Option Value) (x0 : Int32) (s : List Value) (h : am_H), am_E P 91 134 [l0, l1, l2, some (.int x0), l4, l5, l6] s h = am_E P 91 135 [l0, l1, l2, some (.int x0), l4, l5, l6] (.int x0 :: s) h) ∧
  (∀ (P : Nat × Nat) (l0 : Option Value) (l1 : Option Value) (l2 : Option Value) (l3 : Option Value) (l4 : Option Value) (l5 : Option Value) (l6 : Option Value) (x0 : Int32) (h : am_H), am_E P 91 135 [l0, l1, l2, l3, l4, l5, l6] [.int x0] h = some (some (.int x0), h)) :=
  ⟨fun _ _ _ _ _ _ _ _ _ _ => er_go rfl rfl,
  fun _ _ _ _ _ _ _ _ _ _ _ => er_go rfl rfl,
  fun _ _ _ _ _ _ _ _ _ _ => er_go rfl rfl,
  fun _ _ _ _ _ _ _ _ _ _ _ => er_go rfl rfl,
  fun _ _ _ _ _ _ _ _ _ _ => er_go rfl rfl,
  fun _ _ _ _ _ _ _ _ _ => er_go rfl rfl,
  fun _ _ _ _ _ _ _ _ _ _ _ => er_get1 rfl,
  fun _ _ _ _ _ _ _ _ _ _ _ => er_go rfl rfl,
  fun _ _ _ _ _ _ _ _ _ _ => er_go rfl rfl,
  fun _ _ _ _ _ _ _ _ _ _ _ => er_go rfl rfl,
  fun _ _ _ _ _ _ _ _ _ _ => er_go rfl rfl,
  fun _ _ _ _ _ _ _ _ _ _ _ _ => er_ic_ge rfl,
  fun _ _ _ _ _ _ _ _ _ _ => er_go rfl rfl,
  fun _ _ _ _ _ _ _ _ _ => er_go rfl rfl,
  fun _ _ _ _ _ _ _ _ _ _ _ => er_get1 rfl,
  fun _ _ _ _ _ _ _ _ _ _ => er_go rfl rfl,
  fun _ _ _ _ _ _ _ _ _ _ _ _ => er_iald rfl,
  fun _ _ _ _ _ _ _ _ _ _ _ => er_if_ne rfl,
  fun _ _ _ _ _ _ _ _ _ _ => er_go rfl rfl,
  fun _ _ _ _ _ _ _ _ _ => er_go rfl rfl,
  fun _ _ _ _ _ _ _ _ _ _ _ => er_get1 rfl,
  fun _ _ _ _ _ _ _ _ _ _ => er_go rfl rfl,
  fun _ _ _ _ _ _ _ _ _ _ _ _ => er_iald rfl,
  fun _ _ _ _ _ _ _ _ _ _ => er_go rfl rfl,
  fun _ _ _ _ _ _ _ _ _ _ _ _ => er_ic_ne rfl,
  fun _ _ _ _ _ _ _ _ _ _ => er_go rfl rfl,
  fun _ _ _ _ _ _ _ _ _ => er_go rfl rfl,
  fun _ _ _ _ _ _ _ _ _ _ _ => er_get1 rfl,
  fun _ _ _ _ _ _ _ _ _ _ => er_go rfl rfl,
  fun _ _ _ _ _ _ _ _ _ _ _ _ => er_iald rfl,
  fun _ _ _ _ _ _ _ _ _ _ => er_go rfl rfl,
  fun _ _ _ _ _ _ _ _ _ _ _ _ => er_ic_ne rfl,
  fun _ _ _ _ _ _ _ _ _ _ => er_go rfl rfl,
  fun _ _ _ _ _ _ _ _ _ => er_go rfl rfl,
  fun _ _ _ _ _ _ _ _ _ _ => er_callV rfl rfl rfl rfl,
  fun _ _ _ _ _ _ _ _ _ _ _ => er_if_ne rfl,
  fun _ _ _ _ _ _ _ _ _ _ => er_go rfl rfl,
  fun _ _ _ _ _ _ _ _ _ _ => er_ret rfl rfl,
  fun _ _ _ _ _ _ _ _ _ _ => er_go rfl rfl,
  fun _ _ _ _ _ _ _ _ _ _ => er_go rfl rfl,
  fun _ _ _ _ _ _ _ _ _ => er_go rfl rfl,
  fun _ _ _ _ _ _ _ _ _ _ _ => er_get1 rfl,
  fun _ _ _ _ _ _ _ _ _ _ => er_go rfl rfl,
  fun _ _ _ _ _ _ _ _ _ _ _ _ => er_iald rfl,
  fun _ _ _ _ _ _ _ _ _ _ _ => er_if_ne rfl,
  fun _ _ _ _ _ _ _ _ _ _ => er_go rfl rfl,
  fun _ _ _ _ _ _ _ _ _ => er_go rfl rfl,
  fun _ _ _ _ _ _ _ _ _ _ => er_go rfl rfl,
  fun _ _ _ _ _ _ _ _ _ _ => er_go rfl rfl,
  fun _ _ _ _ _ _ _ _ _ _ => er_go rfl rfl,
  fun _ _ _ _ _ _ _ _ _ _ => er_go rfl rfl,
  fun _ _ _ _ _ _ _ _ _ _ _ _ _ _ _ => er_callV rfl rfl rfl rfl,
  fun _ _ _ _ _ _ _ _ _ _ => er_go rfl rfl,
  fun _ _ _ _ _ _ _ _ _ _ => er_go rfl rfl,
  fun _ _ _ _ _ _ _ _ _ => er_go rfl rfl,
  fun _ _ _ _ _ _ _ _ _ _ => er_go rfl rfl,
  fun _ _ _ _ _ _ _ _ _ _ => er_go rfl rfl,
  fun _ _ _ _ _ _ _ _ _ _ => er_go rfl rfl,
  fun _ _ _ _ _ _ _ _ _ _ => er_go rfl rfl,
  fun _ _ _ _ _ _ _ _ _ _ _ _ _ _ _ => er_callV rfl rfl rfl rfl,
  fun _ _ _ _ _ _ _ _ _ _ _ _ => er_go rfl rfl,
  fun _ _ _ _ _ _ _ _ _ _ _ => er_go rfl rfl,
  fun _ _ _ _ _ _ _ _ _ _ => er_go rfl rfl,
  fun _ _ _ _ _ _ _ _ _ _ => er_go rfl rfl,
  fun _ _ _ _ _ _ _ _ _ _ => er_go rfl rfl,
  fun _ _ _ _ _ _ _ _ _ _ => er_go rfl rfl,
  fun _ _ _ _ _ _ _ _ _ => er_go rfl rfl,
  fun _ _ _ _ _ _ _ _ _ _ => er_go rfl rfl,
  fun _ _ _ _ _ _ _ _ _ _ => er_go rfl rfl,
  fun _ _ _ _ _ _ _ _ _ _ => er_go rfl rfl,
  fun _ _ _ _ _ _ _ _ _ _ => er_go rfl rfl,
  fun _ _ _ _ _ _ _ _ _ _ => er_go rfl rfl,
  fun _ _ _ _ _ _ _ _ _ _ _ _ _ _ _ => er_callV rfl rfl rfl rfl,
  fun _ _ _ _ _ _ _ _ _ _ _ => er_if_ne rfl,
  fun _ _ _ _ _ _ _ _ _ _ => er_go rfl rfl,
  fun _ _ _ _ _ _ _ _ _ _ => er_ret rfl rfl,
  fun _ _ _ _ _ _ _ _ _ _ => er_go rfl rfl,
  fun _ _ _ _ _ _ _ _ _ => er_go rfl rfl,
  fun _ _ _ _ _ _ _ _ _ _ _ => er_go rfl rfl,
  fun _ _ _ _ _ _ _ _ _ _ _ => er_get1 rfl,
  fun _ _ _ _ _ _ _ _ _ _ => er_go rfl rfl,
  fun _ _ _ _ _ _ _ _ _ _ _ _ => er_go rfl rfl,
  fun _ _ _ _ _ _ _ _ _ _ _ _ => er_put1 rfl rfl,
  fun _ _ _ _ _ _ _ _ _ _ => er_go rfl rfl,
  fun _ _ _ _ _ _ _ _ _ _ => er_ret rfl rfl⟩
set_option maxRecDepth 100000 in
theorem hd91_14 : ∀ (P : Nat × Nat) (l0 : Option Value) (l1 : Option Value) (l2 : Option Value) (l3 : Option Value) (l4 : Option Value) (l5 : Option Value) (x0 : Int32) (s : List Value) (h : am_H), am_E P 91 14 [l0, l1, l2, l3, l4, l5, some (.int x0)] s h = am_E P 91 16 [l0, l1, l2, l3, l4, l5, some (.int x0)] (.int x0 :: s) h := fun _ _ _ _ _ _ _ _ _ _ => er_go rfl rfl
set_option maxRecDepth 100000 in
/-- TwoStepOutputsModel.line(IIII)I -/
theorem r92 : (∀ (P : Nat × Nat) (l0 : Option Value) (l2 : Option Value) (l3 : Option Value) (l4 : Option Value) (l5 : Option Value) (l6 : Option Value) (x0 : Int32) (s : List Value) (h : am_H), am_E P 92 0 [l0, some (.int x0), l2, l3, l4, l5, l6] s h = am_E P 92 1 [l0, some (.int x0), l2, l3, l4, l5, l6] (.int x0 :: s) h) ∧
  (∀ (P : Nat × Nat) (l0 : Option Value) (l1 : Option Value) (l2 : Option Value) (l3 : Option Value) (l4 : Option Value) (l5 : Option Value) (l6 : Option Value) (s : List Value) (h : am_H), am_E P 92 1 [l0, l1, l2, l3, l4, l5, l6] s h = am_E P 92 3 [l0, l1, l2, l3, l4, l5, l6] (.int 100 :: s) h) ∧
  (∀ (P : Nat × Nat) (l0 : Option Value) (l1 : Option Value) (l2 : Option Value) (l3 : Option Value) (l4 : Option Value) (l5 : Option Value) (l6 : Option Value) (x0 : Int32) (x1 : Int32) (s : List Value) (h : am_H), am_E P 92 3 [l0, l1, l2, l3, l4, l5, l6] (.int x1 :: .int x0 :: s) h = am_E P 92 4 [l0, l1, l2, l3, l4, l5, l6] (.int (x0 * x1) :: s) h) ∧
  (∀ (P : Nat × Nat) (l0 : Option Value) (l1 : Option Value) (l2 : Option Value) (l3 : Option Value) (l4 : Option Value) (l5 : Option Value) (l6 : Option Value) (s : List Value) (h : am_H), am_E P 92 4 [l0, l1, l2, l3, l4, l5, l6] s h = am_E P 92 6 [l0, l1, l2, l3, l4, l5, l6] (.int 20 :: s) h) ∧
  (∀ (P : Nat × Nat) (l0 : Option Value) (l1 : Option Value) (l2 : Option Value) (l3 : Option Value) (l4 : Option Value) (l5 : Option Value) (l6 : Option Value) (x0 : Int32) (x1 : Int32) (s : List Value) (h : am_H), am_E P 92 6 [l0, l1, l2, l3, l4, l5, l6] (.int x1 :: .int x0 :: s) h = am_E P 92 7 [l0, l1, l2, l3, l4, l5, l6] (.int (x0 * x1) :: s) h) ∧
  (∀ (P : Nat × Nat) (l0 : Option Value) (l1 : Option Value) (l2 : Option Value) (l3 : Option Value) (l4 : Option Value) (l5 : Option Value) (l6 : Option Value) (x0 : Int32) (s : List Value) (h : am_H), am_E P 92 7 [l0, l1, l2, l3, l4, l5, l6] (.int x0 :: s) h = am_E P 92 9 [l0, l1, l2, l3, l4, some (.int x0), l6] s h) ∧
  (∀ (P : Nat × Nat) (l0 : Option Value) (l1 : Option Value) (l2 : Option Value) (l3 : Option Value) (l4 : Option Value) (l6 : Option Value) (x0 : Int32) (s : List Value) (h : am_H), am_E P 92 9 [l0, l1, l2, l3, l4, some (.int x0), l6] s h = am_E P 92 11 [l0, l1, l2, l3, l4, some (.int x0), l6] (.int x0 :: s) h) ∧
  (∀ (P : Nat × Nat) (l0 : Option Value) (l1 : Option Value) (l2 : Option Value) (l3 : Option Value) (l4 : Option Value) (l5 : Option Value) (l6 : Option Value) (x0 : Int32) (s : List Value) (h : am_H), am_E P 92 11 [l0, l1, l2, l3, l4, l5, l6] (.int x0 :: s) h = am_E P 92 13 [l0, l1, l2, l3, l4, l5, some (.int x0)] s h) ∧
  (∀ (P : Nat × Nat) (l0 : Option Value) (l1 : Option Value) (l2 : Option Value) (l3 : Option Value) (l4 : Option Value) (l6 : Option Value) (x0 : Int32) (s : List Value) (h : am_H), am_E P 92 15 [l0, l1, l2, l3, l4, some (.int x0), l6] s h = am_E P 92 17 [l0, l1, l2, l3, l4, some (.int x0), l6] (.int x0 :: s) h) ∧
  (∀ (P : Nat × Nat) (l1 : Option Value) (l2 : Option Value) (l3 : Option Value) (l4 : Option Value) (l5 : Option Value) (l6 : Option Value) (a0 : Nat) (s : List Value) (h : am_H), am_E P 92 17 [some (.ref a0), l1, l2, l3, l4, l5, l6] s h = am_E P 92 18 [some (.ref a0), l1, l2, l3, l4, l5, l6] (.ref a0 :: s) h) ∧
  (∀ (P : Nat × Nat) (l1 : Option Value) (l2 : Option Value) (l3 : Option Value) (l4 : Option Value) (l5 : Option Value) (l6 : Option Value) (s : List Value) (h : am_H), am_E P 92 17 [some .null, l1, l2, l3, l4, l5, l6] s h = am_E P 92 18 [some .null, l1, l2, l3, l4, l5, l6] (.null :: s) h) ∧
  (∀ (P : Nat × Nat) (l0 : Option Value) (l1 : Option Value) (l2 : Option Value) (l3 : Option Value) (l4 : Option Value) (l5 : Option Value) (l6 : Option Value) (a0 : Nat) (s : List Value) (h : am_H), am_E P 92 18 [l0, l1, l2, l3, l4, l5, l6] (.ref a0 :: s) h = (am_g1 h a0 9 14).bind (fun v => am_E P 92 21 [l0, l1, l2, l3, l4, l5, l6] (v :: s) h)) ∧
  (∀ (P : Nat × Nat) (l0 : Option Value) (l2 : Option Value) (l3 : Option Value) (l4 : Option Value) (l5 : Option Value) (l6 : Option Value) (x0 : Int32) (s : List Value) (h : am_H), am_E P 92 21 [l0, some (.int x0), l2, l3, l4, l5, l6] s h = am_E P 92 22 [l0, some (.int x0), l2, l3, l4, l5, l6] (.int x0 :: s) h) ∧
  (∀ (P : Nat × Nat) (l0 : Option Value) (l1 : Option Value) (l2 : Option Value) (l3 : Option Value) (l4 : Option Value) (l5 : Option Value) (l6 : Option Value) (x0 : Int32) (a0 : Nat) (s : List Value) (h : am_H), am_E P 92 22 [l0, l1, l2, l3, l4, l5, l6] (.int x0 :: .ref a0 :: s) h = (am_iald h a0 x0).bind (fun v => am_E P 92 23 [l0, l1, l2, l3, l4, l5, l6] (.int v :: s) h)) ∧
  (∀ (P : Nat × Nat) (l0 : Option Value) (l1 : Option Value) (l2 : Option Value) (l3 : Option Value) (l4 : Option Value) (l5 : Option Value) (l6 : Option Value) (x0 : Int32) (x1 : Int32) (s : List Value) (h : am_H), am_E P 92 23 [l0, l1, l2, l3, l4, l5, l6] (.int x1 :: .int x0 :: s) h = am_E P 92 24 [l0, l1, l2, l3, l4, l5, l6] (.int (x0 + x1) :: s) h) ∧
  (∀ (P : Nat × Nat) (l0 : Option Value) (l1 : Option Value) (l2 : Option Value) (l3 : Option Value) (l4 : Option Value) (l5 : Option Value) (l6 : Option Value) (x0 : Int32) (x1 : Int32) (s : List Value) (h : am_H), am_E P 92 24 [l0, l1, l2, l3, l4, l5, l6] (.int x1 :: .int x0 :: s) h = if x1 ≤ x0 then am_E P 92 57 [l0, l1, l2, l3, l4, l5, l6] s h else am_E P 92 27 [l0, l1, l2, l3, l4, l5, l6] s h) ∧
  (∀ (P : Nat × Nat) (l1 : Option Value) (l2 : Option Value) (l3 : Option Value) (l4 : Option Value) (l5 : Option Value) (l6 : Option Value) (a0 : Nat) (s : List Value) (h : am_H), am_E P 92 27 [some (.ref a0), l1, l2, l3, l4, l5, l6] s h = am_E P 92 28 [some (.ref a0), l1, l2, l3, l4, l5, l6] (.ref a0 :: s) h) ∧
  (∀ (P : Nat × Nat) (l1 : Option Value) (l2 : Option Value) (l3 : Option Value) (l4 : Option Value) (l5 : Option Value) (l6 : Option Value) (s : List Value) (h : am_H), am_E P 92 27 [some .null, l1, l2, l3, l4, l5, l6] s h = am_E P 92 28 [some .null, l1, l2, l3, l4, l5, l6] (.null :: s) h) ∧
  (∀ (P : Nat × Nat) (l0 : Option Value) (l1 : Option Value) (l2 : Option Value) (l3 : Option Value) (l4 : Option Value) (l5 : Option Value) (l6 : Option Value) (a0 : Nat) (s : List Value) (h : am_H), am_E P 92 28 [l0, l1, l2, l3, l4, l5, l6] (.ref a0 :: s) h = (am_g1 h a0 9 17).bind (fun v => am_E P 92 31 [l0, l1, l2, l3, l4, l5, l6] (v :: s) h)) ∧
  (∀ (P : Nat × Nat) (l0 : Option Value) (l1 : Option Value) (l2 : Option Value) (l3 : Option Value) (l4 : Option Value) (l5 : Option Value) (x0 : Int32) (s : List Value) (h : am_H), am_E P 92 31 [l0, l1, l2, l3, l4, l5, some (.int x0)] s h = am_E P 92 33 [l0, l1, l2, l3, l4, l5, some (.int x0)] (.int x0 :: s) h) ∧
  (∀ (P : Nat × Nat) (l0 : Option Value) (l1 : Option Value) (l2 : Option Value) (l3 : Option Value) (l4 : Option Value) (l5 : Option Value) (l6 : Option Value) (x0 : Int32) (a0 : Nat) (s : List Value) (h : am_H), am_E P 92 33 [l0, l1, l2, l3, l4, l5, l6] (.int x0 :: .ref a0 :: s) h = (am_iald h a0 x0).bind (fun v => am_E P 92 34 [l0, l1, l2, l3, l4, l5, l6] (.int v :: s) h)) ∧
  (∀ (P : Nat × Nat) (l0 : Option Value) (l1 : Option Value) (l3 : Option Value) (l4 : Option Value) (l5 : Option Value) (l6 : Option Value) (x0 : Int32) (s : List Value) (h : am_H), am_E P 92 34 [l0, l1, some (.int x0), l3, l4, l5, l6] s h = am_E P 92 35 [l0, l1, some (.int x0), l3, l4, l5, l6] (.int x0 :: s) h) ∧
  (∀ (P : Nat × Nat) (l0 : Option Value) (l1 : Option Value) (l2 : Option Value) (l3 : Option Value) (l4 : Option Value) (l5 : Option Value) (l6 : Option Value) (x0 : Int32) (x1 : Int32) (s : List Value) (h : am_H), am_E P 92 35 [l0, l1, l2, l3, l4, l5, l6] (.int x1 :: .int x0 :: s) h = if x0 = x1 then am_E P 92 38 [l0, l1, l2, l3, l4, l5, l6] s h else am_E P 92 51 [l0, l1, l2, l3, l4, l5, l6] s h) ∧
  (∀ (P : Nat × Nat) (l1 : Option Value) (l2 : Option Value) (l3 : Option Value) (l4 : Option Value) (l5 : Option Value) (l6 : Option Value) (a0 : Nat) (s : List Value) (h : am_H), am_E P 92 38 [some (.ref a0), l1, l2, l3, l4, l5, l6] s h = am_E P 92 39 [some (.ref a0), l1, l2, l3, l4, l5, l6] (.ref a0 :: s) h) ∧
  (∀ (P : Nat × Nat) (l1 : Option Value) (l2 : Option Value) (l3 : Option Value) (l4 : Option Value) (l5 : Option Value) (l6 : Option Value) (s : List Value) (h : am_H), am_E P 92 38 [some .null, l1, l2, l3, l4, l5, l6] s h = am_E P 92 39 [some .null, l1, l2, l3, l4, l5, l6] (.null :: s) h) ∧
  (∀ (P : Nat × Nat) (l0 : Option Value) (l1 : Option Value) (l2 : Option Value) (l3 : Option Value) (l4 : Option Value) (l5 : Option Value) (l6 : Option Value) (a0 : Nat) (s : List Value) (h : am_H), am_E P 92 39 [l0, l1, l2, l3, l4, l5, l6] (.ref a0 :: s) h = (am_g1 h a0 9 18).bind (fun v => am_E P 92 42 [l0, l1, l2, l3, l4, l5, l6] (v :: s) h)) ∧
  (∀ (P : Nat × Nat) (l0 : Option Value) (l1 : Option Value) (l2 : Option Value) (l3 : Option Value) (l4 : Option Value) (l5 : Option Value) (x0 : Int32) (s : List Value) (h : am_H), am_E P 92 42 [l0, l1, l2, l3, l4, l5, some (.int x0)] s h = am_E P 92 44 [l0, l1, l2, l3, l4, l5, some (.int x0)] (.int x0 :: s) h) ∧
  (∀ (P : Nat × Nat) (l0 : Option Value) (l1 : Option Value) (l2 : Option Value) (l3 : Option Value) (l4 : Option Value) (l5 : Option Value) (l6 : Option Value) (x0 : Int32) (a0 : Nat) (s : List Value) (h : am_H), am_E P 92 44 [l0, l1, l2, l3, l4, l5, l6] (.int x0 :: .ref a0 :: s) h = (am_iald h a0 x0).bind (fun v => am_E P 92 45 [l0, l1, l2, l3, l4, l5, l6] (.int v :: s) h)) ∧
  (∀ (P : Nat × Nat) (l0 : Option Value) (l1 : Option Value) (l2 : Option Value) (l4 : Option Value) (l5 : Option Value) (l6 : Option Value) (x0 : Int32) (s : List Value) (h : am_H), am_E P 92 45 [l0, l1, l2, some (.int x0), l4, l5, l6] s h = am_E P 92 46 [l0, l1, l2, some (.int x0), l4, l5, l6] (.int x0 :: s) h) ∧
  (∀ (P : Nat × Nat) (l0 : Option Value) (l1 : Option Value) (l2 : Option Value) (l3 : Option Value) (l4 : Option Value) (l5 : Option Value) (l6 : Option Value) (x0 : Int32) (x1 : Int32) (s : List Value) (h : am_H), am_E P 92 46 [l0, l1, l2, l3, l4, l5, l6] (.int x1 :: .int x0 :: s) h = if x0 = x1 then am_E P 92 49 [l0, l1, l2, l3, l4, l5, l6] s h else am_E P 92 51 [l0, l1, l2, l3, l4, l5, l6] s h) ∧
  (∀ (P : Nat × Nat) (l0 : Option Value) (l1 : Option Value) (l2 : Option Value) (l3 : Option Value) (l4 : Option Value) (l5 : Option Value) (l6 : Option Value) (s : List Value) (h : am_H), am_E P 92 49 [l0, l1, l2, l3, l4, l5, l6] s h = am_E P 92 50 [l0, l1, l2, l3, l4, l5, l6] (.int 0 :: s) h) ∧
  (∀ (P : Nat × Nat) (l0 : Option Value) (l1 : Option Value) (l2 : Option Value) (l3 : Option Value) (l4 : Option Value) (l5 : Option Value) (l6 : Option Value) (x0 : Int32) (h : am_H), am_E P 92 50 [l0, l1, l2, l3, l4, l5, l6] [.int x0] h = some (some (.int x0), h)) ∧
  (∀ (P : Nat × Nat) (l0 : Option Value) (l1 : Option Value) (l2 : Option Value) (l3 : Option Value) (l4 : Option Value) (l5 : Option Value) (x0 : Int32) (s : List Value) (h : am_H), am_E P 92 51 [l0, l1, l2, l3, l4, l5, some (.int x0)] s h = am_E P 92 54 [l0, l1, l2, l3, l4, l5, some (.int (x0 + 1))] s h) ∧
  (∀ (P : Nat × Nat) (l0 : Option Value) (l1 : Option Value) (l2 : Option Value) (l3 : Option Value) (l4 : Option Value) (l5 : Option Value) (l6 : Option Value) (s : List Value) (h : am_H), am_E P 92 54 [l0, l1, l2, l3, l4, l5, l6] s h = am_E P 92 13 [l0, l1, l2, l3, l4, l5, l6] s h) ∧
  (∀ (P : Nat × Nat) (l0 : Option Value) (l1 : Option Value) (l2 : Option Value) (l3 : Option Value) (l4 : Option Value) (l6 : Option Value) (x0 : Int32) (s : List Value) (h : am_H), am_E P 92 57 [l0, l1, l2, l3, l4, some (.int x0), l6] s h = am_E P 92 59 [l0, l1, l2, l3, l4, some (.int x0), l6] (.int x0 :: s) h) ∧
  (∀ (P : Nat × Nat) (l1 : Option Value) (l2 : Option Value) (l3 : Option Value) (l4 : Option Value) (l5 : Option Value) (l6 : Option Value) (a0 : Nat) (s : List Value) (h : am_H), am_E P 92 59 [some (.ref a0), l1, l2, l3, l4, l5, l6] s h = am_E P 92 60 [some (.ref a0), l1, l2, l3, l4, l5, l6] (.ref a0 :: s) h) ∧
  (∀ (P : Nat × Nat) (l1 : Option Value) (l2 : Option Value) (l3 : Option Value) (l4 : Option Value) (l5 : Option Value) (l6 : Option Value) (s : List Value) (h : am_H), am_E P 92 59 [some .null, l1, l2, l3, l4, l5, l6] s h = am_E P 92 60 [some .null, l1, l2, l3, l4, l5, l6] (.null :: s) h) ∧
  (∀ (P : Nat × Nat) (l0 : Option Value) (l1 : Option Value) (l2 : Option Value) (l3 : Option Value) (l4 : Option Value) (l5 : Option Value) (l6 : Option Value) (a0 : Nat) (s : List Value) (h : am_H), am_E P 92 60 [l0, l1, l2, l3, l4, l5, l6] (.ref a0 :: s) h = (am_g1 h a0 9 14).bind (fun v => am_E P 92 63 [l0, l1, l2, l3, l4, l5, l6] (v :: s) h)) ∧
  (∀ (P : Nat × Nat) (l0 : Option Value) (l2 : Option Value) (l3 : Option Value) (l4 : Option Value) (l5 : Option Value) (l6 : Option Value) (x0 : Int32) (s : List Value) (h : am_H), am_E P 92 63 [l0, some (.int x0), l2, l3, l4, l5, l6] s h = am_E P 92 64 [l0, some (.int x0), l2, l3, l4, l5, l6] (.int x0 :: s) h) ∧
  (∀ (P : Nat × Nat) (l0 : Option Value) (l1 : Option Value) (l2 : Option Value) (l3 : Option Value) (l4 : Option Value) (l5 : Option Value) (l6 : Option Value) (x0 : Int32) (a0 : Nat) (s : List Value) (h : am_H), am_E P 92 64 [l0, l1, l2, l3, l4, l5, l6] (.int x0 :: .ref a0 :: s) h = (am_iald h a0 x0).bind (fun v => am_E P 92 65 [l0, l1, l2, l3, l4, l5, l6] (.int v :: s) h)) ∧
  (∀ (P : Nat × Nat) (l0 : Option Value) (l1 : Option Value) (l2 : Option Value) (l3 : Option Value) (l4 : Option Value) (l5 : Option Value) (l6 : Option Value) (x0 : Int32) (x1 : Int32) (s : List Value) (h : am_H), am_E P 92 65 [l0, l1, l2, l3, l4, l5, l6] (.int x1 :: .int x0 :: s) h = am_E P 92 66 [l0, l1, l2, l3, l4, l5, l6] (.int (x0 + x1) :: s) h) ∧
  (∀ (P : Nat × Nat) (l0 : Option Value) (l1 : Option Value) (l2 : Option Value) (l3 : Option Value) (l4 : Option Value) (l5 : Option Value) (l6 : Option Value) (x0 : Int32) (s : List Value) (h : am_H), am_E P 92 66 [l0, l1, l2, l3, l4, l5, l6] (.int x0 :: s) h = am_E P 92 68 [l0, l1, l2, l3, l4, l5, some (.int x0)] s h) ∧
  (∀ (P : Nat × Nat) (l1 : Option Value) (l2 : Option Value) (l3 : Option Value) (l4 : Option Value) (l5 : Option Value) (l6 : Option Value) (a0 : Nat) (s : List Value) (h : am_H), am_E P 92 68 [some (.ref a0), l1, l2, l3, l4, l5, l6] s h = am_E P 92 69 [some (.ref a0), l1, l2, l3, l4, l5, l6] (.ref a0 :: s) h) ∧
  (∀ (P : Nat × Nat) (l1 : Option Value) (l2 : Option Value) (l3 : Option Value) (l4 : Option Value) (l5 : Option Value) (l6 : Option Value) (s : List Value) (h : am_H), am_E P 92 68 [some .null, l1, l2, l3, l4, l5, l6] s h = am_E P 92 69 [some .null, l1, l2, l3, l4, l5, l6] (.null :: s) h) ∧
  (∀ (P : Nat × Nat) (l0 : Option Value) (l1 : Option Value) (l2 : Option Value) (l3 : Option Value) (l4 : Option Value) (l5 : Option Value) (l6 : Option Value) (a0 : Nat) (s : List Value) (h : am_H), am_E P 92 69 [l0, l1, l2, l3, l4, l5, l6] (.ref a0 :: s) h = (am_g1 h a0 9 15).bind (fun v => am_E P 92 72 [l0, l1, l2, l3, l4, l5, l6] (v :: s) h)) ∧
  (∀ (P : Nat × Nat) (l0 : Option Value) (l1 : Option Value) (l2 : Option Value) (l3 : Option Value) (l4 : Option Value) (l5 : Option Value) (x0 : Int32) (s : List Value) (h : am_H), am_E P 92 72 [l0, l1, l2, l3, l4, l5, some (.int x0)] s h = am_E P 92 74 [l0, l1, l2, l3, l4, l5, some (.int x0)] (.int x0 :: s) h) ∧
  (∀ (P : Nat × Nat) (l1 : Option Value) (l2 : Option Value) (l3 : Option Value) (l4 : Option Value) (l5 : Option Value) (l6 : Option Value) (a0 : Nat) (s : List Value) (h : am_H), am_E P 92 74 [some (.ref a0), l1, l2, l3, l4, l5, l6] s h = am_E P 92 75 [some (.ref a0), l1, l2, l3, l4, l5, l6] (.ref a0 :: s) h) ∧
  (∀ (P : Nat × Nat) (l1 : Option Value) (l2 : Option Value) (l3 : Option Value) (l4 : Option Value) (l5 : Option Value) (l6 : Option Value) (s : List Value) (h : am_H), am_E P 92 74 [some .null, l1, l2, l3, l4, l5, l6] s h = am_E P 92 75 [some .null, l1, l2, l3, l4, l5, l6] (.null :: s) h) ∧
  (∀ (P : Nat × Nat) (l0 : Option Value) (l1 : Option Value) (l2 : Option Value) (l3 : Option Value) (l4 : Option Value) (l5 : Option Value) (l6 : Option Value) (a0 : Nat) (s : List Value) (h : am_H), am_E P 92 75 [l0, l1, l2, l3, l4, l5, l6] (.ref a0 :: s) h = (am_g1 h a0 9 12).bind (fun v => am_E P 92 78 [l0, l1, l2, l3, l4, l5, l6] (v :: s) h)) ∧
  (∀ (P : Nat × Nat) (l0 : Option Value) (l1 : Option Value) (l2 : Option Value) (l3 : Option Value) (l5 : Option Value) (l6 : Option Value) (x0 : Int32) (s : List Value) (h : am_H), am_E P 92 78 [l0, l1, l2, l3, some (.int x0), l5, l6] s h = am_E P 92 80 [l0, l1, l2, l3, some (.int x0), l5, l6] (.int x0 :: s) h) ∧
  (∀ (P : Nat × Nat) (l0 : Option Value) (l1 : Option Value) (l2 : Option Value) (l3 : Option Value) (l4 : Option Value) (l5 : Option Value) (l6 : Option Value) (x0 : Int32) (a0 : Nat) (s : List Value) (h : am_H), am_E P 92 80 [l0, l1, l2, l3, l4, l5, l6] (.int x0 :: .ref a0 :: s) h = (am_iald h a0 x0).bind (fun v => am_E P 92 81 [l0, l1, l2, l3, l4, l5, l6] (.int v :: s) h)) ∧
  (∀ (P : Nat × Nat) (l0 : Option Value) (l1 : Option Value) (l2 : Option Value) (l3 : Option Value) (l4 : Option Value) (l5 : Option Value) (l6 : Option Value) (x0 : Int32) (x1 : Int32) (a0 : Nat) (s : List Value) (h : am_H), am_E P 92 81 [l0, l1, l2, l3, l4, l5, l6] (.int x1 :: .int x0 :: .ref a0 :: s) h = (am_iast h a0 x0 x1).bind (fun h => am_E P 92 82 [l0, l1, l2, l3, l4, l5, l6] s h)) ∧
  (∀ (P : Nat × Nat) (l1 : Option Value) (l2 : Option Value) (l3 : Option Value) (l4 : Option Value) (l5 : Option Value) (l6 : Option Value) (a0 : Nat) (s : List Value) (h : am_H), am_E P 92 82 [some (.ref a0), l1, l2, l3, l4, l5, l6] s h = am_E P 92 83 [some (.ref a0), l1, l2, l3, l4, l5, l6] (.ref a0 :: s) h) ∧
  (∀ (P : Nat × Nat) (l1 : Option Value) (l2 : Option Value) (l3 : Option Value) (l4 : Option Value) (l5 : Option Value) (l6 : Option Value) (s : List Value) (h : am_H), am_E P 92 82 [some .null, l1, l2, l3, l4, l5, l6] s h = am_E P 92 83 [some .null, l1, l2, l3, l4, l5, l6] (.null :: s) h) ∧
  (∀ (P : Nat × Nat) (l0 : Option Value) (l1 : Option Value) (l2 : Option Value) (l3 : Option Value) (l4 : Option Value) (l5 : Option Value) (l6 : Option Value) (a0 : Nat) (s : List Value) (h : am_H), am_E P 92 83 [l0, l1, l2, l3, l4, l5, l6] (.ref a0 :: s) h = (am_g1 h a0 9 16).bind (fun v => am_E P 92 86 [l0, l1, l2, l3, l4, l5, l6] (v :: s) h)) ∧
  (∀ (P : Nat × Nat) (l0 : Option Value) (l1 : Option Value) (l2 : Option Value) (l3 : Option Value) (l4 : Option Value) (l5 : Option Value) (x0 : Int32) (s : List Value) (h : am_H), am_E P 92 86 [l0, l1, l2, l3, l4, l5, some (.int x0)] s h = am_E P 92 88 [l0, l1, l2, l3, l4, l5, some (.int x0)] (.int x0 :: s) h) ∧
  (∀ (P : Nat × Nat) (l1 : Option Value) (l2 : Option Value) (l3 : Option Value) (l4 : Option Value) (l5 : Option Value) (l6 : Option Value) (a0 : Nat) (s : List Value) (h : am_H), am_E P 92 88 [some (.ref a0), l1, l2, l3, l4, l5, l6] s h = am_E P 92 89 [some (.ref a0), l1, l2, l3, l4, l5, l6] (.ref a0 :: s) h) ∧
  (∀ (P : Nat × Nat) (l1 : Option Value) (l2 : Option Value) (l3 : Option Value) (l4 : Option Value) (l5 : Option Value) (l6 : Option Value) (s : List Value) (h : am_H), am_E P 92 88 [some .null, l1, l2, l3, l4, l5, l6] s h = am_E P 92 89 [some .null, l1, l2, l3, l4, l5, l6] (.null :: s) h) ∧
  (∀ (P : Nat × Nat) (l0 : Option Value) (l1 : Option Value) (l2 : Option Value) (l3 : Option Value) (l4 : Option Value) (l5 : Option Value) (l6 : Option Value) (a0 : Nat) (s : List Value) (h : am_H), am_E P 92 89 [l0, l1, l2, l3, l4, l5, l6] (.ref a0 :: s) h = (am_g1 h a0 9 13).bind (fun v => am_E P 92 92 [l0, l1, l2, l3, l4, l5, l6] (v :: s) h)) ∧
  (∀ (P : Nat × Nat) (l0 : Option Value) (l1 : Option Value) (l2 : Option Value) (l3 : Option Value) (l5 : Option Value) (l6 : Option Value) (x0 : Int32) (s : List Value) (h : am_H), am_E P 92 92 [l0, l1, l2, l3, some (.int x0), l5, l6] s h = am_E P 92 94 [l0, l1, l2, l3, some (.int x0), l5, l6] (.int x0 :: s) h) ∧
  (∀ (P : Nat × Nat) (l0 : Option Value) (l1 : Option Value) (l2 : Option Value) (l3 : Option Value) (l4 : Option Value) (l5 : Option Value) (l6 : Option Value) (x0 : Int32) (a0 : Nat) (s : List Value) (h : am_H), am_E P 92 94 [l0, l1, l2, l3, l4, l5, l6] (.int x0 :: .ref a0 :: s) h = (am_iald h a0 x0).bind (fun v => am_E P 92 95 [l0, l1, l2, l3, l4, l5, l6] (.int v :: s) h)) ∧
  (∀ (P : Nat × Nat) (l0 : Option Value) (l1 : Option Value) (l2 : Option Value) (l3 : Option Value) (l4 : Option Value) (l5 : Option Value) (l6 : Option Value) (x0 : Int32) (x1 : Int32) (a0 : Nat) (s : List Value) (h : am_H), am_E P 92 95 [l0, l1, l2, l3, l4, l5, l6] (.int x1 :: .int x0 :: .ref a0 :: s) h = (am_iast h a0 x0 x1).bind (fun h => am_E P 92 96 [l0, l1, l2, l3, l4, l5, l6] s h)) ∧
  (∀ (P : Nat × Nat) (l1 : Option Value) (l2 : Option Value) (l3 : Option Value) (l4 : Option Value) (l5 : Option Value) (l6 : Option Value) (a0 : Nat) (s : List Value) (h : am_H), am_E P 92 96 [some (.ref a0), l1, l2, l3, l4, l5, l6] s h = am_E P 92 97 [some (.ref a0), l1, l2, l3, l4, l5, l6] (.ref a0 :: s) h) ∧
  (∀ (P : Nat × Nat) (l1 : Option Value) (l2 : Option Value) (l3 : Option Value) (l4 : Option Value) (l5 : Option Value) (l6 : Option Value) (s : List Value) (h : am_H), am_E P 92 96 [some .null, l1, l2, l3, l4, l5, l6] s h = am_E P 92 97 [some .null, l1, l2, l3, l4, l5, l6] (.null :: s) h) ∧
  (∀ (P : Nat × Nat) (l0 : Option Value) (l1 : Option Value) (l2 : Option Value) (l3 : Option Value) (l4 : Option Value) (l5 : Option Value) (l6 : Option Value) (a0 : Nat) (s : List Value) (h : am_H), am_E P 92 97 [l0, l1, l2, l3, l4, l5, l6] (.ref a0 :: s) h = (am_g1 h a0 9 17).bind (fun v => am_E P 92 100 [l0, l1, l2, l3, l4, l5, l6] (v :: s) h)) ∧
  (∀ (P : Nat × Nat) (l0 : Option Value) (l1 : Option Value) (l2 : Option Value) (l3 : Option Value) (l4 : Option Value) (l5 : Option Value) (x0 : Int32) (s : List Value) (h : am_H), am_E P 92 100 [l0, l1, l2, l3, l4, l5, some (.int x0)] s h = am_E P 92 102 [l0, l1, l2, l3, l4, l5, some (.int x0)] (.int x0 :: s) h) ∧
  (∀ (P : Nat × Nat) (l0 : Option Value) (l1 : Option Value) (l3 : Option Value) (l4 : Option Value) (l5 : Option Value) (l6 : Option Value) (x0 : Int32) (s : List Value) (h : am_H), am_E P 92 102 [l0, l1, some (.int x0), l3, l4, l5, l6] s h = am_E P 92 103 [l0, l1, some (.int x0), l3, l4, l5, l6] (.int x0 :: s) h) ∧
  (∀ (P : Nat × Nat) (l0 : Option Value) (l1 : Option Value) (l2 : Option Value) (l3 : Option Value) (l4 : Option Value) (l5 : Option Value) (l6 : Option Value) (x0 : Int32) (x1 : Int32) (a0 : Nat) (s : List Value) (h : am_H), am_E P 92 103 [l0, l1, l2, l3, l4, l5, l6] (.int x1 :: .int x0 :: .ref a0 :: s) h = (am_iast h a0 x0 x1).bind (fun h => am_E P 92 104 [l0, l1, l2, l3, l4, l5, l6] s h)) ∧
  (∀ (P : Nat × Nat) (l1 : Option Value) (l2 : Option Value) (l3 : Option Value) (l4 : Option Value) (l5 : Option Value) (l6 : Option Value) (a0 : Nat) (s : List Value) (h : am_H), am_E P 92 104 [some (.ref a0), l1, l2, l3, l4, l5, l6] s h = am_E P 92 105 [some (.ref a0), l1, l2, l3, l4, l5, l6] (.ref a0 :: s) h) ∧
  (∀ (P : Nat × Nat) (l1 : Option Value) (l2 : Option Value) (l3 : Option Value) (l4 : Option Value) (l5 : Option Value) (l6 : Option Value) (s : List Value) (h : am_H), am_E P 92 104 [some .null, l1, l2, l3, l4, l5, l6] s h = am_E P 92 105 [some .null, l1, l2, l3, l4, l5, l6] (.null :: s) h) ∧
  (∀ (P : Nat × Nat) (l0 : Option Value) (l1 : Option Value) (l2 : Option Value) (l3 : Option Value) (l4 : Option Value) (l5 : Option Value) (l6 : Option Value) (a0 : Nat) (s : List Value) (h : am_H), am_E P 92 105 [l0, l1, l2, l3, l4, l5, l6] (.ref a0 :: s) h = (am_g1 h a0 9 18).bind (fun v => am_E P 92 108 [l0, l1, l2, l3, l4, l5, l6] (v :: s) h)) ∧
  (∀ (P : Nat × Nat) (l0 : Option Value) (l1 : Option Value) (l2 : Option Value) (l3 : Option Value) (l4 : Option Value) (l5 : Option Value) (x0 : Int32) (s : List Value) (h : am_H), am_E P 92 108 [l0, l1, l2, l3, l4, l5, some (.int x0)] s h = am_E P 92 110 [l0, l1, l2, l3, l4, l5, some (.int x0)] (.int x0 :: s) h) ∧
  (∀ (P : Nat × Nat) (l0 : Option Value) (l1 : Option Value) (l2 : Option Value) (l4 : Option Value) (l5 : Option Value) (l6 : Option Value) (x0 : Int32) (s : List Value) (h : am_H), am_E P 92 110 [l0, l1, l2, some (.int x0), l4, l5, l6] s h = am_E P 92 111 [l0, l1, l2, some (.int x0), l4, l5, l6] (.int x0 :: s) h) ∧
  (∀ (P : Nat × Nat) (l0 : Option Value) (l1 : Option Value) (l2 : Option Value) (l3 : Option Value) (l4 : Option Value) (l5 : Option Value) (l6 : Option Value) (x0 : Int32) (x1 : Int32) (a0 : Nat) (s : List Value) (h : am_H), am_E P 92 111 [l0, l1, l2, l3, l4, l5, l6] (.int x1 :: .int x0 :: .ref a0 :: s) h = (am_iast h a0 x0 x1).bind (fun h => am_E P 92 112 [l0, l1, l2, l3, l4, l5, l6] s h)) ∧
  (∀ (P : Nat × Nat) (l1 : Option Value) (l2 : Option Value) (l3 : Option Value) (l4 : Option Value) (l5 : Option Value) (l6 : Option Value) (a0 : Nat) (s : List Value) (h : am_H), am_E P 92 112 [some (.ref a0), l1, l2, l3, l4, l5, l6] s h = am_E P 92 113 [some (.ref a0), l1, l2, l3, l4, l5, l6] (.ref a0 :: s) h) ∧
  (∀ (P : Nat × Nat) (l1 : Option Value) (l2 : Option Value) (l3 : Option Value) (l4 : Option Value) (l5 : Option Value) (l6 : Option Value) (s : List Value) (h : am_H), am_E P 92 112 [some .null, l1, l2, l3, l4, l5, l6] s h = am_E P 92 113 [some .null, l1, l2, l3, l4, l5, l6] (.null :: s) h) ∧
  (∀ (P : Nat × Nat) (l0 : Option Value) (l1 : Option Value) (l2 : Option Value) (l3 : Option Value) (l4 : Option Value) (l5 : Option Value) (l6 : Option Value) (a0 : Nat) (s : List Value) (h : am_H), am_E P 92 113 [l0, l1, l2, l3, l4, l5, l6] (.ref a0 :: s) h = (am_g1 h a0 9 14).bind (fun v => am_E P 92 116 [l0, l1, l2, l3, l4, l5, l6] (v :: s) h)) ∧
  (∀ (P : Nat × Nat) (l0 : Option Value) (l2 : Option Value) (l3 : Option Value) (l4 : Option Value) (l5 : Option Value) (l6 : Option Value) (x0 : Int32) (s : List Value) (h : am_H), am_E P 92 116 [l0, some (.int x0), l2, l3, l4, l5, l6] s h = am_E P 92 117 [l0, some (.int x0), l2, l3, l4, l5, l6] (.int x0 :: s) h) ∧
  (∀ (P : Nat × Nat) (l0 : Option Value) (l1 : Option Value) (l2 : Option Value) (l3 : Option Value) (l4 : Option Value) (l5 : Option Value) (l6 : Option Value) (x0 : Int32) (a0 : Nat) (s : List Value) (h : am_H), am_E P 92 117 [l0, l1, l2, l3, l4, l5, l6] (.int x0 :: .ref a0 :: s) h = am_E P 92 118 [l0, l1, l2, l3, l4, l5, l6] (.int x0 :: .ref a0 :: .int x0 :: .ref a0 :: s) h) ∧
  (∀ (P : Nat × Nat) (l0 : Option Value) (l1 : Option Value) (l2 : Option Value) (l3 : Option Value) (l4 : Option Value) (l5 : Option Value) (l6 : Option Value) (x0 : Int32) (a0 : Nat) (s : List Value) (h : am_H), am_E P 92 118 [l0, l1, l2, l3, l4, l5, l6] (.int x0 :: .ref a0 :: s) h = (am_iald h a0 x0).bind (fun v => am_E P 92 119 [l0, l1, l2, l3, l4, l5, l6] (.int v :: s) h)) ∧
  (∀ (P : Nat × Nat) (l0 : Option Value) (l1 : Option Value) (l2 : Option Value) (l3 : Option Value) (l4 : Option Value) (l5 : Option Value) (l6 : Option Value) (s : List Value) (h : am_H), am_E P 92 119 [l0, l1, l2, l3, l4, l5, l6] s h = am_E P 92 120 [l0, l1, l2, l3, l4, l5, l6] (.int 1 :: s) h) ∧
  (∀ (P : Nat × Nat) (l0 : Option Value) (l1 : Option Value) (l2 : Option Value) (l3 : Option Value) (l4 : Option Value) (l5 : Option Value) (l6 : Option Value) (x0 : Int32) (x1 : Int32) (s : List Value) (h : am_H), am_E P 92 120 [l0, l1, l2, l3, l4, l5, l6] (.int x1 :: .int x0 :: s) h = am_E P 92 121 [l0, l1, l2, l3, l4, l5, l6] (.int (x0 + x1) :: s) h) ∧
  (∀ (P : Nat × Nat) (l0 : Option Value) (l1 : Option Value) (l2 : Option Value) (l3 : Option Value) (l4 : Option Value) (l5 : Option Value) (l6 : Option Value) (x0 : Int32) (x1 : Int32) (a0 : Nat) (s : List Value) (h : am_H), am_E P 92 121 [l0, l1, l2, l3, l4, l5, l6] (.int x1 :: .int x0 :: .ref a0 :: s) h = (am_iast h a0 x0 x1).bind (fun h => am_E P 92 122 [l0, l1, l2, l3, l4, l5, l6] s h)) ∧
  (∀ (P : Nat × Nat) (l0 : Option Value) (l1 : Option Value) (l2 : Option Value) (l3 : Option Value) (l4 : Option Value) (l5 : Option Value) (l6 : Option Value) (s : List Value) (h : am_H), am_E P 92 122 [l0, l1, l2, l3, l4, l5, l6] s h = am_E P 92 123 [l0, l1, l2, l3, l4, l5, l6] (.int 1 :: s) h) ∧
  (∀ (P : Nat × Nat) (l0 : Option Value) (l1 : Option Value) (l2 : Option Value) (l3 : Option Value) (l4 : Option Value) (l5 : Option Value) (l6 : Option Value) (x0 : Int32) (h : am_H), am_E P 92 123 [l0, l1, l2, l3, l4, l5, l6] [.int x0] h = some (some (.int x0), h)) :=
  ⟨fun _ _ _ _ _ _ _ _ _ _ => er_go rfl rfl,
  fun _ _ _ _ _ _ _ _ _ _ => er_go rfl rfl,
  fun _ _ _ _ _ _ _ _ _ _ _ _ => er_go rfl rfl,
  fun _ _ _ _ _ _ _ _ _ _ => er_go rfl rfl,
  fun _ _ _ _ _ _ _ _ _ _ _ _ => er_go rfl rfl,
  fun _ _ _ _ _ _ _ _ _ _ _ => er_go rfl rfl,
  fun _ _ _ _ _ _ _ _ _ _ => er_go rfl rfl,
  fun _ _ _ _ _ _ _ _ _ _ _ => er_go rfl rfl,
  fun _ _ _ _ _ _ _ _ _ _ => er_go rfl rfl,
  fun _ _ _ _ _ _ _ _ _ _ => er_go rfl rfl,
  fun _ _ _ _ _ _ _ _ _ => er_go rfl rfl,
  fun _ _ _ _ _ _ _ _ _ _ _ => er_get1 rfl,
  fun _ _ _ _ _ _ _ _ _ _ => er_go rfl rfl,
  fun _ _ _ _ _ _ _ _ _ _ _ _ => er_iald rfl,
  fun _ _ _ _ _ _ _ _ _ _ _ _ => er_go rfl rfl,
  fun _ _ _ _ _ _ _ _ _ _ _ _ => er_ic_ge rfl,
  fun _ _ _ _ _ _ _ _ _ _ => er_go rfl rfl,
  fun _ _ _ _ _ _ _ _ _ => er_go rfl rfl,
  fun _ _ _ _ _ _ _ _ _ _ _ => er_get1 rfl,
  fun _ _ _ _ _ _ _ _ _ _ => er_go rfl rfl,
  fun _ _ _ _ _ _ _ _ _ _ _ _ => er_iald rfl,
  fun _ _ _ _ _ _ _ _ _ _ => er_go rfl rfl,
  fun _ _ _ _ _ _ _ _ _ _ _ _ => er_ic_ne rfl,
  fun _ _ _ _ _ _ _ _ _ _ => er_go rfl rfl,
  fun _ _ _ _ _ _ _ _ _ => er_go rfl rfl,
  fun _ _ _ _ _ _ _ _ _ _ _ => er_get1 rfl,
  fun _ _ _ _ _ _ _ _ _ _ => er_go rfl rfl,
  fun _ _ _ _ _ _ _ _ _ _ _ _ => er_iald rfl,
  fun _ _ _ _ _ _ _ _ _ _ => er_go rfl rfl,
  fun _ _ _ _ _ _ _ _ _ _ _ _ => er_ic_ne rfl,
  fun _ _ _ _ _ _ _ _ _ _ => er_go rfl rfl,
  fun _ _ _ _ _ _ _ _ _ _ => er_ret rfl rfl,
  fun _ _ _ _ _ _ _ _ _ _ => er_go rfl rfl,
  fun _ _ _ _ _ _ _ _ _ _ => er_go rfl rfl,
  fun _ _ _ _ _ _ _ _ _ _ => er_go rfl rfl,
  fun _ _ _ _ _ _ _ _ _ _ => er_go rfl rfl,
  fun _ _ _ _ _ _ _ _ _ => er_go rfl rfl,
  fun _ _ _ _ _ _ _ _ _ _ _ => er_get1 rfl,
  fun _ _ _ _ _ _ _ _ _ _ => er_go rfl rfl,
  fun _ _ _ _ _ _ _ _ _ _ _ _ => er_iald rfl,
  fun _ _ _ _ _ _ _ _ _ _ _ _ => er_go rfl rfl,
  fun _ _ _ _ _ _ _ _ _ _ _ => er_go rfl rfl,
  fun _ _ _ _ _ _ _ _ _ _ => er_go rfl rfl,
  fun _ _ _ _ _ _ _ _ _ => er_go rfl rfl,
  fun _ _ _ _ _ _ _ _ _ _ _ => er_get1 rfl,
  fun _ _ _ _ _ _ _ _ _ _ => er_go rfl rfl,
  fun _ _ _ _ _ _ _ _ _ _ => er_go rfl rfl,
  fun _ _ _ _ _ _ _ _ _ => er_go rfl rfl,
  fun _ _ _ _ _ _ _ _ _ _ _ => er_get1 rfl,
  fun _ _ _ _ _ _ _ _ _ _ => er_go rfl rfl,
  fun _ _ _ _ _ _ _ _ _ _ _ _ => er_iald rfl,
  fun _ _ _ _ _ _ _ _ _ _ _ _ _ => er_iast rfl,
  fun _ _ _ _ _ _ _ _ _ _ => er_go rfl rfl,
  fun _ _ _ _ _ _ _ _ _ => er_go rfl rfl,
  fun _ _ _ _ _ _ _ _ _ _ _ => er_get1 rfl,
  fun _ _ _ _ _ _ _ _ _ _ => er_go rfl rfl,
  fun _ _ _ _ _ _ _ _ _ _ => er_go rfl rfl,
  fun _ _ _ _ _ _ _ _ _ => er_go rfl rfl,
  fun _ _ _ _ _ _ _ _ _ _ _ => er_get1 rfl,
  fun _ _ _ _ _ _ _ _ _ _ => er_go rfl rfl,
  fun _ _ _ _ _ _ _ _ _ _ _ _ => er_iald rfl,
  fun _ _ _ _ _ _ _ _ _ _ _ _ _ => er_iast rfl,
  fun _ _ _ _ _ _ _ _ _ _ => er_go rfl rfl,
  fun _ _ _ _ _ _ _ _ _ => er_go rfl rfl,
  fun _ _ _ _ _ _ _ _ _ _ _ => er_get1 rfl,
  fun _ _ _ _ _ _ _ _ _ _ => er_go rfl rfl,
  fun _ _ _ _ _ _ _ _ _ _ => er_go rfl rfl,
  fun _ _ _ _ _ _ _ _ _ _ _ _ _ => er_iast rfl,
  fun _ _ _ _ _ _ _ _ _ _ => er_go rfl rfl,
  fun _ _ _ _ _ _ _ _ _ => er_go rfl rfl,
  fun _ _ _ _ _ _ _ _ _ _ _ => er_get1 rfl,
  fun _ _ _ _ _ _ _ _ _ _ => er_go rfl rfl,
  fun _ _ _ _ _ _ _ _ _ _ => er_go rfl rfl,
  fun _ _ _ _ _ _ _ _ _ _ _ _ _ => er_iast rfl,
  fun _ _ _ _ _ _ _ _ _ _ => er_go rfl rfl,
  fun _ _ _ _ _ _ _ _ _ => er_go rfl rfl,
  fun _ _ _ _ _ _ _ _ _ _ _ => er_get1 rfl,
  fun _ _ _ _ _ _ _ _ _ _ => er_go rfl rfl,
  fun _ _ _ _ _ _ _ _ _ _ _ _ => er_go rfl rfl,
  fun _ _ _ _ _ _ _ _ _ _ _ _ => er_iald rfl,
  fun _ _ _ _ _ _ _ _ _ _ => er_go rfl rfl,
  fun _ _ _ _ _ _ _ _ _ _ _ _ => er_go rfl rfl,
  fun _ _ _ _ _ _ _ _ _ _ _ _ _ => er_iast rfl,
  fun _ _ _ _ _ _ _ _ _ _ => er_go rfl rfl,
  fun _ _ _ _ _ _ _ _ _ _ => er_ret rfl rfl⟩
set_option maxRecDepth 100000 in
theorem hd92_13 : ∀ (P : Nat × Nat) (l0 : Option Value) (l1 : Option Value) (l2 : Option Value) (l3 : Option Value) (l4 : Option Value) (l5 : Option Value) (x0 : Int32) (s : List Value) (h : am_H), am_E P 92 13 [l0, l1, l2, l3, l4, l5, some (.int x0)] s h = am_E P 92 15 [l0, l1, l2, l3, l4, l5, some (.int x0)] (.int x0 :: s) h := fun _ _ _ _ _ _ _ _ _ _ => er_go rfl rfl
set_option maxRecDepth 100000 in
/-- TwoStepOutputsModel.last(IIII)I -/
theorem r93 : (∀ (P : Nat × Nat) (l0 : Option Value) (l1 : Option Value) (l2 : Option Value) (l3 : Option Value) (l4 : Option Value) (l5 : Option Value) (s : List Value) (h : am_H), am_E P 93 0 [l0, l1, l2, l3, l4, l5] s h = am_E P 93 2 [l0, l1, l2, l3, l4, l5] (.int 10 :: s) h) ∧
  (∀ (P : Nat × Nat) (l0 : Option Value) (l2 : Option Value) (l3 : Option Value) (l4 : Option Value) (l5 : Option Value) (x0 : Int32) (s : List Value) (h : am_H), am_E P 93 2 [l0, some (.int x0), l2, l3, l4, l5] s h = am_E P 93 3 [l0, some (.int x0), l2, l3, l4, l5] (.int x0 :: s) h) ∧
  (∀ (P : Nat × Nat) (l0 : Option Value) (l1 : Option Value) (l2 : Option Value) (l3 : Option Value) (l4 : Option Value) (l5 : Option Value) (x0 : Int32) (x1 : Int32) (s : List Value) (h : am_H), am_E P 93 3 [l0, l1, l2, l3, l4, l5] (.int x1 :: .int x0 :: s) h = am_E P 93 4 [l0, l1, l2, l3, l4, l5] (.int (x0 * x1) :: s) h) ∧
  (∀ (P : Nat × Nat) (l1 : Option Value) (l2 : Option Value) (l3 : Option Value) (l4 : Option Value) (l5 : Option Value) (a0 : Nat) (s : List Value) (h : am_H), am_E P 93 4 [some (.ref a0), l1, l2, l3, l4, l5] s h = am_E P 93 5 [some (.ref a0), l1, l2, l3, l4, l5] (.ref a0 :: s) h) ∧
  (∀ (P : Nat × Nat) (l1 : Option Value) (l2 : Option Value) (l3 : Option Value) (l4 : Option Value) (l5 : Option Value) (s : List Value) (h : am_H), am_E P 93 4 [some .null, l1, l2, l3, l4, l5] s h = am_E P 93 5 [some .null, l1, l2, l3, l4, l5] (.null :: s) h) ∧
  (∀ (P : Nat × Nat) (l0 : Option Value) (l1 : Option Value) (l2 : Option Value) (l3 : Option Value) (l4 : Option Value) (l5 : Option Value) (a0 : Nat) (s : List Value) (h : am_H), am_E P 93 5 [l0, l1, l2, l3, l4, l5] (.ref a0 :: s) h = (am_g1 h a0 9 12).bind (fun v => am_E P 93 8 [l0, l1, l2, l3, l4, l5] (v :: s) h)) ∧
  (∀ (P : Nat × Nat) (l0 : Option Value) (l1 : Option Value) (l2 : Option Value) (l3 : Option Value) (l5 : Option Value) (x0 : Int32) (s : List Value) (h : am_H), am_E P 93 8 [l0, l1, l2, l3, some (.int x0), l5] s h = am_E P 93 10 [l0, l1, l2, l3, some (.int x0), l5] (.int x0 :: s) h) ∧
  (∀ (P : Nat × Nat) (l0 : Option Value) (l1 : Option Value) (l2 : Option Value) (l3 : Option Value) (l4 : Option Value) (l5 : Option Value) (x0 : Int32) (a0 : Nat) (s : List Value) (h : am_H), am_E P 93 10 [l0, l1, l2, l3, l4, l5] (.int x0 :: .ref a0 :: s) h = (am_iald h a0 x0).bind (fun v => am_E P 93 11 [l0, l1, l2, l3, l4, l5] (.int v :: s) h)) ∧
  (∀ (P : Nat × Nat) (l0 : Option Value) (l1 : Option Value) (l2 : Option Value) (l3 : Option Value) (l4 : Option Value) (l5 : Option Value) (x0 : Int32) (x1 : Int32) (s : List Value) (h : am_H), am_E P 93 11 [l0, l1, l2, l3, l4, l5] (.int x1 :: .int x0 :: s) h = am_E P 93 12 [l0, l1, l2, l3, l4, l5] (.int (x0 + x1) :: s) h) ∧
  (∀ (P : Nat × Nat) (l0 : Option Value) (l1 : Option Value) (l2 : Option Value) (l3 : Option Value) (l4 : Option Value) (l5 : Option Value) (x0 : Int32) (s : List Value) (h : am_H), am_E P 93 12 [l0, l1, l2, l3, l4, l5] (.int x0 :: s) h = am_E P 93 14 [l0, l1, l2, l3, l4, some (.int x0)] s h) ∧
  (∀ (P : Nat × Nat) (l1 : Option Value) (l2 : Option Value) (l3 : Option Value) (l4 : Option Value) (l5 : Option Value) (a0 : Nat) (s : List Value) (h : am_H), am_E P 93 14 [some (.ref a0), l1, l2, l3, l4, l5] s h = am_E P 93 15 [some (.ref a0), l1, l2, l3, l4, l5] (.ref a0 :: s) h) ∧
  (∀ (P : Nat × Nat) (l1 : Option Value) (l2 : Option Value) (l3 : Option Value) (l4 : Option Value) (l5 : Option Value) (s : List Value) (h : am_H), am_E P 93 14 [some .null, l1, l2, l3, l4, l5] s h = am_E P 93 15 [some .null, l1, l2, l3, l4, l5] (.null :: s) h) ∧
  (∀ (P : Nat × Nat) (l0 : Option Value) (l1 : Option Value) (l2 : Option Value) (l3 : Option Value) (l4 : Option Value) (l5 : Option Value) (a0 : Nat) (s : List Value) (h : am_H), am_E P 93 15 [l0, l1, l2, l3, l4, l5] (.ref a0 :: s) h = (am_g1 h a0 9 19).bind (fun v => am_E P 93 18 [l0, l1, l2, l3, l4, l5] (v :: s) h)) ∧
  (∀ (P : Nat × Nat) (l0 : Option Value) (l1 : Option Value) (l2 : Option Value) (l3 : Option Value) (l4 : Option Value) (x0 : Int32) (s : List Value) (h : am_H), am_E P 93 18 [l0, l1, l2, l3, l4, some (.int x0)] s h = am_E P 93 20 [l0, l1, l2, l3, l4, some (.int x0)] (.int x0 :: s) h) ∧
  (∀ (P : Nat × Nat) (l0 : Option Value) (l1 : Option Value) (l2 : Option Value) (l3 : Option Value) (l4 : Option Value) (l5 : Option Value) (x0 : Int32) (a0 : Nat) (s : List Value) (h : am_H), am_E P 93 20 [l0, l1, l2, l3, l4, l5] (.int x0 :: .ref a0 :: s) h = (am_iald h a0 x0).bind (fun v => am_E P 93 21 [l0, l1, l2, l3, l4, l5] (.int v :: s) h)) ∧
  (∀ (P : Nat × Nat) (l0 : Option Value) (l1 : Option Value) (l2 : Option Value) (l3 : Option Value) (l4 : Option Value) (l5 : Option Value) (s : List Value) (h : am_H), am_E P 93 21 [l0, l1, l2, l3, l4, l5] s h = am_E P 93 23 [l0, l1, l2, l3, l4, l5] (.int (-6) :: s) h) ∧
  (∀ (P : Nat × Nat) (l0 : Option Value) (l1 : Option Value) (l2 : Option Value) (l3 : Option Value) (l4 : Option Value) (l5 : Option Value) (x0 : Int32) (x1 : Int32) (s : List Value) (h : am_H), am_E P 93 23 [l0, l1, l2, l3, l4, l5] (.int x1 :: .int x0 :: s) h = if x0 = x1 then am_E P 93 61 [l0, l1, l2, l3, l4, l5] s h else am_E P 93 26 [l0, l1, l2, l3, l4, l5] s h) ∧
  (∀ (P : Nat × Nat) (l1 : Option Value) (l2 : Option Value) (l3 : Option Value) (l4 : Option Value) (l5 : Option Value) (a0 : Nat) (s : List Value) (h : am_H), am_E P 93 26 [some (.ref a0), l1, l2, l3, l4, l5] s h = am_E P 93 27 [some (.ref a0), l1, l2, l3, l4, l5] (.ref a0 :: s) h) ∧
  (∀ (P : Nat × Nat) (l1 : Option Value) (l2 : Option Value) (l3 : Option Value) (l4 : Option Value) (l5 : Option Value) (s : List Value) (h : am_H), am_E P 93 26 [some .null, l1, l2, l3, l4, l5] s h = am_E P 93 27 [some .null, l1, l2, l3, l4, l5] (.null :: s) h) ∧
  (∀ (P : Nat × Nat) (l0 : Option Value) (l1 : Option Value) (l2 : Option Value) (l3 : Option Value) (l4 : Option Value) (l5 : Option Value) (a0 : Nat) (s : List Value) (h : am_H), am_E P 93 27 [l0, l1, l2, l3, l4, l5] (.ref a0 :: s) h = (am_g1 h a0 9 19).bind (fun v => am_E P 93 30 [l0, l1, l2, l3, l4, l5] (v :: s) h)) ∧
  (∀ (P : Nat × Nat) (l0 : Option Value) (l1 : Option Value) (l2 : Option Value) (l3 : Option Value) (l4 : Option Value) (x0 : Int32) (s : List Value) (h : am_H), am_E P 93 30 [l0, l1, l2, l3, l4, some (.int x0)] s h = am_E P 93 32 [l0, l1, l2, l3, l4, some (.int x0)] (.int x0 :: s) h) ∧
  (∀ (P : Nat × Nat) (l0 : Option Value) (l1 : Option Value) (l2 : Option Value) (l3 : Option Value) (l4 : Option Value) (l5 : Option Value) (x0 : Int32) (a0 : Nat) (s : List Value) (h : am_H), am_E P 93 32 [l0, l1, l2, l3, l4, l5] (.int x0 :: .ref a0 :: s) h = (am_iald h a0 x0).bind (fun v => am_E P 93 33 [l0, l1, l2, l3, l4, l5] (.int v :: s) h)) ∧
  (∀ (P : Nat × Nat) (l0 : Option Value) (l1 : Option Value) (l3 : Option Value) (l4 : Option Value) (l5 : Option Value) (x0 : Int32) (s : List Value) (h : am_H), am_E P 93 33 [l0, l1, some (.int x0), l3, l4, l5] s h = am_E P 93 34 [l0, l1, some (.int x0), l3, l4, l5] (.int x0 :: s) h) ∧
  (∀ (P : Nat × Nat) (l0 : Option Value) (l1 : Option Value) (l2 : Option Value) (l3 : Option Value) (l4 : Option Value) (l5 : Option Value) (x0 : Int32) (x1 : Int32) (s : List Value) (h : am_H), am_E P 93 34 [l0, l1, l2, l3, l4, l5] (.int x1 :: .int x0 :: s) h = if x1 < x0 then am_E P 93 59 [l0, l1, l2, l3, l4, l5] s h else am_E P 93 37 [l0, l1, l2, l3, l4, l5] s h) ∧
  (∀ (P : Nat × Nat) (l1 : Option Value) (l2 : Option Value) (l3 : Option Value) (l4 : Option Value) (l5 : Option Value) (a0 : Nat) (s : List Value) (h : am_H), am_E P 93 37 [some (.ref a0), l1, l2, l3, l4, l5] s h = am_E P 93 38 [some (.ref a0), l1, l2, l3, l4, l5] (.ref a0 :: s) h) ∧
  (∀ (P : Nat × Nat) (l1 : Option Value) (l2 : Option Value) (l3 : Option Value) (l4 : Option Value) (l5 : Option Value) (s : List Value) (h : am_H), am_E P 93 37 [some .null, l1, l2, l3, l4, l5] s h = am_E P 93 38 [some .null, l1, l2, l3, l4, l5] (.null :: s) h) ∧
  (∀ (P : Nat × Nat) (l0 : Option Value) (l1 : Option Value) (l2 : Option Value) (l3 : Option Value) (l4 : Option Value) (l5 : Option Value) (a0 : Nat) (s : List Value) (h : am_H), am_E P 93 38 [l0, l1, l2, l3, l4, l5] (.ref a0 :: s) h = (am_g1 h a0 9 19).bind (fun v => am_E P 93 41 [l0, l1, l2, l3, l4, l5] (v :: s) h)) ∧
  (∀ (P : Nat × Nat) (l0 : Option Value) (l1 : Option Value) (l2 : Option Value) (l3 : Option Value) (l4 : Option Value) (x0 : Int32) (s : List Value) (h : am_H), am_E P 93 41 [l0, l1, l2, l3, l4, some (.int x0)] s h = am_E P 93 43 [l0, l1, l2, l3, l4, some (.int x0)] (.int x0 :: s) h) ∧
  (∀ (P : Nat × Nat) (l0 : Option Value) (l1 : Option Value) (l2 : Option Value) (l3 : Option Value) (l4 : Option Value) (l5 : Option Value) (x0 : Int32) (a0 : Nat) (s : List Value) (h : am_H), am_E P 93 43 [l0, l1, l2, l3, l4, l5] (.int x0 :: .ref a0 :: s) h = (am_iald h a0 x0).bind (fun v => am_E P 93 44 [l0, l1, l2, l3, l4, l5] (.int v :: s) h)) ∧
  (∀ (P : Nat × Nat) (l0 : Option Value) (l1 : Option Value) (l3 : Option Value) (l4 : Option Value) (l5 : Option Value) (x0 : Int32) (s : List Value) (h : am_H), am_E P 93 44 [l0, l1, some (.int x0), l3, l4, l5] s h = am_E P 93 45 [l0, l1, some (.int x0), l3, l4, l5] (.int x0 :: s) h) ∧
  (∀ (P : Nat × Nat) (l0 : Option Value) (l1 : Option Value) (l2 : Option Value) (l3 : Option Value) (l4 : Option Value) (l5 : Option Value) (x0 : Int32) (x1 : Int32) (s : List Value) (h : am_H), am_E P 93 45 [l0, l1, l2, l3, l4, l5] (.int x1 :: .int x0 :: s) h = if x0 = x1 then am_E P 93 48 [l0, l1, l2, l3, l4, l5] s h else am_E P 93 61 [l0, l1, l2, l3, l4, l5] s h) ∧
  (∀ (P : Nat × Nat) (l1 : Option Value) (l2 : Option Value) (l3 : Option Value) (l4 : Option Value) (l5 : Option Value) (a0 : Nat) (s : List Value) (h : am_H), am_E P 93 48 [some (.ref a0), l1, l2, l3, l4, l5] s h = am_E P 93 49 [some (.ref a0), l1, l2, l3, l4, l5] (.ref a0 :: s) h) ∧
  (∀ (P : Nat × Nat) (l1 : Option Value) (l2 : Option Value) (l3 : Option Value) (l4 : Option Value) (l5 : Option Value) (s : List Value) (h : am_H), am_E P 93 48 [some .null, l1, l2, l3, l4, l5] s h = am_E P 93 49 [some .null, l1, l2, l3, l4, l5] (.null :: s) h) ∧
  (∀ (P : Nat × Nat) (l0 : Option Value) (l1 : Option Value) (l2 : Option Value) (l3 : Option Value) (l4 : Option Value) (l5 : Option Value) (a0 : Nat) (s : List Value) (h : am_H), am_E P 93 49 [l0, l1, l2, l3, l4, l5] (.ref a0 :: s) h = (am_g1 h a0 9 20).bind (fun v => am_E P 93 52 [l0, l1, l2, l3, l4, l5] (v :: s) h)) ∧
  (∀ (P : Nat × Nat) (l0 : Option Value) (l1 : Option Value) (l2 : Option Value) (l3 : Option Value) (l4 : Option Value) (x0 : Int32) (s : List Value) (h : am_H), am_E P 93 52 [l0, l1, l2, l3, l4, some (.int x0)] s h = am_E P 93 54 [l0, l1, l2, l3, l4, some (.int x0)] (.int x0 :: s) h) ∧
  (∀ (P : Nat × Nat) (l0 : Option Value) (l1 : Option Value) (l2 : Option Value) (l3 : Option Value) (l4 : Option Value) (l5 : Option Value) (x0 : Int32) (a0 : Nat) (s : List Value) (h : am_H), am_E P 93 54 [l0, l1, l2, l3, l4, l5] (.int x0 :: .ref a0 :: s) h = (am_iald h a0 x0).bind (fun v => am_E P 93 55 [l0, l1, l2, l3, l4, l5] (.int v :: s) h)) ∧
  (∀ (P : Nat × Nat) (l0 : Option Value) (l1 : Option Value) (l2 : Option Value) (l4 : Option Value) (l5 : Option Value) (x0 : Int32) (s : List Value) (h : am_H), am_E P 93 55 [l0, l1, l2, some (.int x0), l4, l5] s h = am_E P 93 56 [l0, l1, l2, some (.int x0), l4, l5] (.int x0 :: s) h) ∧
  (∀ (P : Nat × Nat) (l0 : Option Value) (l1 : Option Value) (l2 : Option Value) (l3 : Option Value) (l4 : Option Value) (l5 : Option Value) (x0 : Int32) (x1 : Int32) (s : List Value) (h : am_H), am_E P 93 56 [l0, l1, l2, l3, l4, l5] (.int x1 :: .int x0 :: s) h = if x0 < x1 then am_E P 93 61 [l0, l1, l2, l3, l4, l5] s h else am_E P 93 59 [l0, l1, l2, l3, l4, l5] s h) ∧
  (∀ (P : Nat × Nat) (l0 : Option Value) (l1 : Option Value) (l2 : Option Value) (l3 : Option Value) (l4 : Option Value) (l5 : Option Value) (s : List Value) (h : am_H), am_E P 93 59 [l0, l1, l2, l3, l4, l5] s h = am_E P 93 60 [l0, l1, l2, l3, l4, l5] (.int 0 :: s) h) ∧
  (∀ (P : Nat × Nat) (l0 : Option Value) (l1 : Option Value) (l2 : Option Value) (l3 : Option Value) (l4 : Option Value) (l5 : Option Value) (x0 : Int32) (h : am_H), am_E P 93 60 [l0, l1, l2, l3, l4, l5] [.int x0] h = some (some (.int x0), h)) ∧
  (∀ (P : Nat × Nat) (l1 : Option Value) (l2 : Option Value) (l3 : Option Value) (l4 : Option Value) (l5 : Option Value) (a0 : Nat) (s : List Value) (h : am_H), am_E P 93 61 [some (.ref a0), l1, l2, l3, l4, l5] s h = am_E P 93 62 [some (.ref a0), l1, l2, l3, l4, l5] (.ref a0 :: s) h) ∧
  (∀ (P : Nat × Nat) (l1 : Option Value) (l2 : Option Value) (l3 : Option Value) (l4 : Option Value) (l5 : Option Value) (s : List Value) (h : am_H), am_E P 93 61 [some .null, l1, l2, l3, l4, l5] s h = am_E P 93 62 [some .null, l1, l2, l3, l4, l5] (.null :: s) h) ∧
  (∀ (P : Nat × Nat) (l0 : Option Value) (l1 : Option Value) (l2 : Option Value) (l3 : Option Value) (l4 : Option Value) (l5 : Option Value) (a0 : Nat) (s : List Value) (h : am_H), am_E P 93 62 [l0, l1, l2, l3, l4, l5] (.ref a0 :: s) h = (am_g1 h a0 9 19).bind (fun v => am_E P 93 65 [l0, l1, l2, l3, l4, l5] (v :: s) h)) ∧
  (∀ (P : Nat × Nat) (l0 : Option Value) (l1 : Option Value) (l2 : Option Value) (l3 : Option Value) (l4 : Option Value) (x0 : Int32) (s : List Value) (h : am_H), am_E P 93 65 [l0, l1, l2, l3, l4, some (.int x0)] s h = am_E P 93 67 [l0, l1, l2, l3, l4, some (.int x0)] (.int x0 :: s) h) ∧
  (∀ (P : Nat × Nat) (l0 : Option Value) (l1 : Option Value) (l3 : Option Value) (l4 : Option Value) (l5 : Option Value) (x0 : Int32) (s : List Value) (h : am_H), am_E P 93 67 [l0, l1, some (.int x0), l3, l4, l5] s h = am_E P 93 68 [l0, l1, some (.int x0), l3, l4, l5] (.int x0 :: s) h) ∧
  (∀ (P : Nat × Nat) (l0 : Option Value) (l1 : Option Value) (l2 : Option Value) (l3 : Option Value) (l4 : Option Value) (l5 : Option Value) (x0 : Int32) (x1 : Int32) (a0 : Nat) (s : List Value) (h : am_H), am_E P 93 68 [l0, l1, l2, l3, l4, l5] (.int x1 :: .int x0 :: .ref a0 :: s) h = (am_iast h a0 x0 x1).bind (fun h => am_E P 93 69 [l0, l1, l2, l3, l4, l5] s h)) ∧
  (∀ (P : Nat × Nat) (l1 : Option Value) (l2 : Option Value) (l3 : Option Value) (l4 : Option Value) (l5 : Option Value) (a0 : Nat) (s : List Value) (h : am_H), am_E P 93 69 [some (.ref a0), l1, l2, l3, l4, l5] s h = am_E P 93 70 [some (.ref a0), l1, l2, l3, l4, l5] (.ref a0 :: s) h) ∧
  (∀ (P : Nat × Nat) (l1 : Option Value) (l2 : Option Value) (l3 : Option Value) (l4 : Option Value) (l5 : Option Value) (s : List Value) (h : am_H), am_E P 93 69 [some .null, l1, l2, l3, l4, l5] s h = am_E P 93 70 [some .null, l1, l2, l3, l4, l5] (.null :: s) h) ∧
  (∀ (P : Nat × Nat) (l0 : Option Value) (l1 : Option Value) (l2 : Option Value) (l3 : Option Value) (l4 : Option Value) (l5 : Option Value) (a0 : Nat) (s : List Value) (h : am_H), am_E P 93 70 [l0, l1, l2, l3, l4, l5] (.ref a0 :: s) h = (am_g1 h a0 9 20).bind (fun v => am_E P 93 73 [l0, l1, l2, l3, l4, l5] (v :: s) h)) ∧
  (∀ (P : Nat × Nat) (l0 : Option Value) (l1 : Option Value) (l2 : Option Value) (l3 : Option Value) (l4 : Option Value) (x0 : Int32) (s : List Value) (h : am_H), am_E P 93 73 [l0, l1, l2, l3, l4, some (.int x0)] s h = am_E P 93 75 [l0, l1, l2, l3, l4, some (.int x0)] (.int x0 :: s) h) ∧
  (∀ (P : Nat × Nat) (l0 : Option Value) (l1 : Option Value) (l2 : Option Value) (l4 : Option Value) (l5 : Option Value) (x0 : Int32) (s : List Value) (h : am_H), am_E P 93 75 [l0, l1, l2, some (.int x0), l4, l5] s h = am_E P 93 76 [l0, l1, l2, some (.int x0), l4, l5] (.int x0 :: s) h) ∧
  (∀ (P : Nat × Nat) (l0 : Option Value) (l1 : Option Value) (l2 : Option Value) (l3 : Option Value) (l4 : Option Value) (l5 : Option Value) (x0 : Int32) (x1 : Int32) (a0 : Nat) (s : List Value) (h : am_H), am_E P 93 76 [l0, l1, l2, l3, l4, l5] (.int x1 :: .int x0 :: .ref a0 :: s) h = (am_iast h a0 x0 x1).bind (fun h => am_E P 93 77 [l0, l1, l2, l3, l4, l5] s h)) ∧
  (∀ (P : Nat × Nat) (l1 : Option Value) (l2 : Option Value) (l3 : Option Value) (l4 : Option Value) (l5 : Option Value) (a0 : Nat) (s : List Value) (h : am_H), am_E P 93 77 [some (.ref a0), l1, l2, l3, l4, l5] s h = am_E P 93 78 [some (.ref a0), l1, l2, l3, l4, l5] (.ref a0 :: s) h) ∧
  (∀ (P : Nat × Nat) (l1 : Option Value) (l2 : Option Value) (l3 : Option Value) (l4 : Option Value) (l5 : Option Value) (s : List Value) (h : am_H), am_E P 93 77 [some .null, l1, l2, l3, l4, l5] s h = am_E P 93 78 [some .null, l1, l2, l3, l4, l5] (.null :: s) h) ∧
  (∀ (P : Nat × Nat) (l0 : Option Value) (l1 : Option Value) (l2 : Option Value) (l3 : Option Value) (l4 : Option Value) (l5 : Option Value) (a0 : Nat) (s : List Value) (h : am_H), am_E P 93 78 [l0, l1, l2, l3, l4, l5] (.ref a0 :: s) h = (am_g1 h a0 9 21).bind (fun v => am_E P 93 81 [l0, l1, l2, l3, l4, l5] (v :: s) h)) ∧
  (∀ (P : Nat × Nat) (l0 : Option Value) (l1 : Option Value) (l2 : Option Value) (l3 : Option Value) (l4 : Option Value) (x0 : Int32) (s : List Value) (h : am_H), am_E P 93 81 [l0, l1, l2, l3, l4, some (.int x0)] s h = am_E P 93 83 [l0, l1, l2, l3, l4, some (.int x0)] (.int x0 :: s) h) ∧
  (∀ (P : Nat × Nat) (l1 : Option Value) (l2 : Option Value) (l3 : Option Value) (l4 : Option Value) (l5 : Option Value) (a0 : Nat) (s : List Value) (h : am_H), am_E P 93 83 [some (.ref a0), l1, l2, l3, l4, l5] s h = am_E P 93 84 [some (.ref a0), l1, l2, l3, l4, l5] (.ref a0 :: s) h) ∧
  (∀ (P : Nat × Nat) (l1 : Option Value) (l2 : Option Value) (l3 : Option Value) (l4 : Option Value) (l5 : Option Value) (s : List Value) (h : am_H), am_E P 93 83 [some .null, l1, l2, l3, l4, l5] s h = am_E P 93 84 [some .null, l1, l2, l3, l4, l5] (.null :: s) h) ∧
  (∀ (P : Nat × Nat) (l0 : Option Value) (l1 : Option Value) (l2 : Option Value) (l3 : Option Value) (l4 : Option Value) (l5 : Option Value) (a0 : Nat) (s : List Value) (h : am_H), am_E P 93 84 [l0, l1, l2, l3, l4, l5] (.ref a0 :: s) h = (am_g1 h a0 9 13).bind (fun v => am_E P 93 87 [l0, l1, l2, l3, l4, l5] (v :: s) h)) ∧
  (∀ (P : Nat × Nat) (l0 : Option Value) (l1 : Option Value) (l2 : Option Value) (l3 : Option Value) (l5 : Option Value) (x0 : Int32) (s : List Value) (h : am_H), am_E P 93 87 [l0, l1, l2, l3, some (.int x0), l5] s h = am_E P 93 89 [l0, l1, l2, l3, some (.int x0), l5] (.int x0 :: s) h) ∧
  (∀ (P : Nat × Nat) (l0 : Option Value) (l1 : Option Value) (l2 : Option Value) (l3 : Option Value) (l4 : Option Value) (l5 : Option Value) (x0 : Int32) (a0 : Nat) (s : List Value) (h : am_H), am_E P 93 89 [l0, l1, l2, l3, l4, l5] (.int x0 :: .ref a0 :: s) h = (am_iald h a0 x0).bind (fun v => am_E P 93 90 [l0, l1, l2, l3, l4, l5] (.int v :: s) h)) ∧
  (∀ (P : Nat × Nat) (l0 : Option Value) (l1 : Option Value) (l2 : Option Value) (l3 : Option Value) (l4 : Option Value) (l5 : Option Value) (x0 : Int32) (x1 : Int32) (a0 : Nat) (s : List Value) (h : am_H), am_E P 93 90 [l0, l1, l2, l3, l4, l5] (.int x1 :: .int x0 :: .ref a0 :: s) h = (am_iast h a0 x0 x1).bind (fun h => am_E P 93 91 [l0, l1, l2, l3, l4, l5] s h)) ∧
  (∀ (P : Nat × Nat) (l0 : Option Value) (l1 : Option Value) (l2 : Option Value) (l3 : Option Value) (l4 : Option Value) (l5 : Option Value) (s : List Value) (h : am_H), am_E P 93 91 [l0, l1, l2, l3, l4, l5] s h = am_E P 93 92 [l0, l1, l2, l3, l4, l5] (.int 1 :: s) h) ∧
  (∀ (P : Nat × Nat) (l0 : Option Value) (l1 : Option Value) (l2 : Option Value) (l3 : Option Value) (l4 : Option Value) (l5 : Option Value) (x0 : Int32) (h : am_H), am_E P 93 92 [l0, l1, l2, l3, l4, l5] [.int x0] h = some (some (.int x0), h)) :=
  ⟨fun _ _ _ _ _ _ _ _ _ => er_go rfl rfl,
  fun _ _ _ _ _ _ _ _ _ => er_go rfl rfl,
  fun _ _ _ _ _ _ _ _ _ _ _ => er_go rfl rfl,
  fun _ _ _ _ _ _ _ _ _ => er_go rfl rfl,
  fun _ _ _ _ _ _ _ _ => er_go rfl rfl,
  fun _ _ _ _ _ _ _ _ _ _ => er_get1 rfl,
  fun _ _ _ _ _ _ _ _ _ => er_go rfl rfl,
  fun _ _ _ _ _ _ _ _ _ _ _ => er_iald rfl,
  fun _ _ _ _ _ _ _ _ _ _ _ => er_go rfl rfl,
  fun _ _ _ _ _ _ _ _ _ _ => er_go rfl rfl,
  fun _ _ _ _ _ _ _ _ _ => er_go rfl rfl,
  fun _ _ _ _ _ _ _ _ => er_go rfl rfl,
  fun _ _ _ _ _ _ _ _ _ _ => er_get1 rfl,
  fun _ _ _ _ _ _ _ _ _ => er_go rfl rfl,
  fun _ _ _ _ _ _ _ _ _ _ _ => er_iald rfl,
  fun _ _ _ _ _ _ _ _ _ => er_go rfl rfl,
  fun _ _ _ _ _ _ _ _ _ _ _ => er_ic_eq rfl,
  fun _ _ _ _ _ _ _ _ _ => er_go rfl rfl,
  fun _ _ _ _ _ _ _ _ => er_go rfl rfl,
  fun _ _ _ _ _ _ _ _ _ _ => er_get1 rfl,
  fun _ _ _ _ _ _ _ _ _ => er_go rfl rfl,
  fun _ _ _ _ _ _ _ _ _ _ _ => er_iald rfl,
  fun _ _ _ _ _ _ _ _ _ => er_go rfl rfl,
  fun _ _ _ _ _ _ _ _ _ _ _ => er_ic_gt rfl,
  fun _ _ _ _ _ _ _ _ _ => er_go rfl rfl,
  fun _ _ _ _ _ _ _ _ => er_go rfl rfl,
  fun _ _ _ _ _ _ _ _ _ _ => er_get1 rfl,
  fun _ _ _ _ _ _ _ _ _ => er_go rfl rfl,
  fun _ _ _ _ _ _ _ _ _ _ _ => er_iald rfl,
  fun _ _ _ _ _ _ _ _ _ => er_go rfl rfl,
  fun _ _ _ _ _ _ _ _ _ _ _ => er_ic_ne rfl,
  fun _ _ _ _ _ _ _ _ _ => er_go rfl rfl,
  fun _ _ _ _ _ _ _ _ => er_go rfl rfl,
  fun _ _ _ _ _ _ _ _ _ _ => er_get1 rfl,
  fun _ _ _ _ _ _ _ _ _ => er_go rfl rfl,
  fun _ _ _ _ _ _ _ _ _ _ _ => er_iald rfl,
  fun _ _ _ _ _ _ _ _ _ => er_go rfl rfl,
  fun _ _ _ _ _ _ _ _ _ _ _ => er_ic_lt rfl,
  fun _ _ _ _ _ _ _ _ _ => er_go rfl rfl,
  fun _ _ _ _ _ _ _ _ _ => er_ret rfl rfl,
  fun _ _ _ _ _ _ _ _ _ => er_go rfl rfl,
  fun _ _ _ _ _ _ _ _ => er_go rfl rfl,
  fun _ _ _ _ _ _ _ _ _ _ => er_get1 rfl,
  fun _ _ _ _ _ _ _ _ _ => er_go rfl rfl,
  fun _ _ _ _ _ _ _ _ _ => er_go rfl rfl,
  fun _ _ _ _ _ _ _ _ _ _ _ _ => er_iast rfl,
  fun _ _ _ _ _ _ _ _ _ => er_go rfl rfl,
  fun _ _ _ _ _ _ _ _ => er_go rfl rfl,
  fun _ _ _ _ _ _ _ _ _ _ => er_get1 rfl,
  fun _ _ _ _ _ _ _ _ _ => er_go rfl rfl,
  fun _ _ _ _ _ _ _ _ _ => er_go rfl rfl,
  fun _ _ _ _ _ _ _ _ _ _ _ _ => er_iast rfl,
  fun _ _ _ _ _ _ _ _ _ => er_go rfl rfl,
  fun _ _ _ _ _ _ _ _ => er_go rfl rfl,
  fun _ _ _ _ _ _ _ _ _ _ => er_get1 rfl,
  fun _ _ _ _ _ _ _ _ _ => er_go rfl rfl,
  fun _ _ _ _ _ _ _ _ _ => er_go rfl rfl,
  fun _ _ _ _ _ _ _ _ => er_go rfl rfl,
  fun _ _ _ _ _ _ _ _ _ _ => er_get1 rfl,
  fun _ _ _ _ _ _ _ _ _ => er_go rfl rfl,
  fun _ _ _ _ _ _ _ _ _ _ _ => er_iald rfl,
  fun _ _ _ _ _ _ _ _ _ _ _ _ => er_iast rfl,
  fun _ _ _ _ _ _ _ _ _ => er_go rfl rfl,
  fun _ _ _ _ _ _ _ _ _ => er_ret rfl rfl⟩
set_option maxRecDepth 100000 in
/-- TwoStepOutputsModel.goes(II)I -/
theorem r94 : (∀ (P : Nat × Nat) (l0 : Option Value) (l1 : Option Value) (l2 : Option Value) (l3 : Option Value) (l4 : Option Value) (l5 : Option Value) (s : List Value) (h : am_H), am_E P 94 0 [l0, l1, l2, l3, l4, l5] s h = am_E P 94 1 [l0, l1, l2, l3, l4, l5] (.int 0 :: s) h) ∧
  (∀ (P : Nat × Nat) (l0 : Option Value) (l1 : Option Value) (l2 : Option Value) (l3 : Option Value) (l4 : Option Value) (l5 : Option Value) (x0 : Int32) (s : List Value) (h : am_H), am_E P 94 1 [l0, l1, l2, l3, l4, l5] (.int x0 :: s) h = am_E P 94 2 [l0, l1, l2, some (.int x0), l4, l5] s h) ∧
  (∀ (P : Nat × Nat) (l0 : Option Value) (l1 : Option Value) (l2 : Option Value) (l3 : Option Value) (l4 : Option Value) (l5 : Option Value) (s : List Value) (h : am_H), am_E P 94 2 [l0, l1, l2, l3, l4, l5] s h = am_E P 94 3 [l0, l1, l2, l3, l4, l5] (.int 0 :: s) h) ∧
  (∀ (P : Nat × Nat) (l0 : Option Value) (l1 : Option Value) (l2 : Option Value) (l3 : Option Value) (l4 : Option Value) (l5 : Option Value) (x0 : Int32) (s : List Value) (h : am_H), am_E P 94 3 [l0, l1, l2, l3, l4, l5] (.int x0 :: s) h = am_E P 94 5 [l0, l1, l2, l3, some (.int x0), l5] s h) ∧
  (∀ (P : Nat × Nat) (l1 : Option Value) (l2 : Option Value) (l3 : Option Value) (l4 : Option Value) (l5 : Option Value) (a0 : Nat) (s : List Value) (h : am_H), am_E P 94 7 [some (.ref a0), l1, l2, l3, l4, l5] s h = am_E P 94 8 [some (.ref a0), l1, l2, l3, l4, l5] (.ref a0 :: s) h) ∧
  (∀ (P : Nat × Nat) (l1 : Option Value) (l2 : Option Value) (l3 : Option Value) (l4 : Option Value) (l5 : Option Value) (s : List Value) (h : am_H), am_E P 94 7 [some .null, l1, l2, l3, l4, l5] s h = am_E P 94 8 [some .null, l1, l2, l3, l4, l5] (.null :: s) h) ∧
  (∀ (P : Nat × Nat) (l0 : Option Value) (l1 : Option Value) (l2 : Option Value) (l3 : Option Value) (l4 : Option Value) (l5 : Option Value) (a0 : Nat) (s : List Value) (h : am_H), am_E P 94 8 [l0, l1, l2, l3, l4, l5] (.ref a0 :: s) h = (am_g1 h a0 9 5).bind (fun v => am_E P 94 11 [l0, l1, l2, l3, l4, l5] (v :: s) h)) ∧
  (∀ (P : Nat × Nat) (l0 : Option Value) (l2 : Option Value) (l3 : Option Value) (l4 : Option Value) (l5 : Option Value) (x0 : Int32) (s : List Value) (h : am_H), am_E P 94 11 [l0, some (.int x0), l2, l3, l4, l5] s h = am_E P 94 12 [l0, some (.int x0), l2, l3, l4, l5] (.int x0 :: s) h) ∧
  (∀ (P : Nat × Nat) (l0 : Option Value) (l1 : Option Value) (l2 : Option Value) (l3 : Option Value) (l4 : Option Value) (l5 : Option Value) (x0 : Int32) (a0 : Nat) (s : List Value) (h : am_H), am_E P 94 12 [l0, l1, l2, l3, l4, l5] (.int x0 :: .ref a0 :: s) h = (am_iald h a0 x0).bind (fun v => am_E P 94 13 [l0, l1, l2, l3, l4, l5] (.int v :: s) h)) ∧
  (∀ (P : Nat × Nat) (l0 : Option Value) (l1 : Option Value) (l2 : Option Value) (l3 : Option Value) (l4 : Option Value) (l5 : Option Value) (x0 : Int32) (x1 : Int32) (s : List Value) (h : am_H), am_E P 94 13 [l0, l1, l2, l3, l4, l5] (.int x1 :: .int x0 :: s) h = if x1 ≤ x0 then am_E P 94 91 [l0, l1, l2, l3, l4, l5] s h else am_E P 94 16 [l0, l1, l2, l3, l4, l5] s h) ∧
  (∀ (P : Nat × Nat) (l1 : Option Value) (l2 : Option Value) (l3 : Option Value) (l4 : Option Value) (l5 : Option Value) (a0 : Nat) (s : List Value) (h : am_H), am_E P 94 16 [some (.ref a0), l1, l2, l3, l4, l5] s h = am_E P 94 17 [some (.ref a0), l1, l2, l3, l4, l5] (.ref a0 :: s) h) ∧
  (∀ (P : Nat × Nat) (l1 : Option Value) (l2 : Option Value) (l3 : Option Value) (l4 : Option Value) (l5 : Option Value) (s : List Value) (h : am_H), am_E P 94 16 [some .null, l1, l2, l3, l4, l5] s h = am_E P 94 17 [some .null, l1, l2, l3, l4, l5] (.null :: s) h) ∧
  (∀ (P : Nat × Nat) (l0 : Option Value) (l2 : Option Value) (l3 : Option Value) (l4 : Option Value) (l5 : Option Value) (x0 : Int32) (s : List Value) (h : am_H), am_E P 94 17 [l0, some (.int x0), l2, l3, l4, l5] s h = am_E P 94 18 [l0, some (.int x0), l2, l3, l4, l5] (.int x0 :: s) h) ∧
  (∀ (P : Nat × Nat) (l0 : Option Value) (l1 : Option Value) (l2 : Option Value) (l3 : Option Value) (l5 : Option Value) (x0 : Int32) (s : List Value) (h : am_H), am_E P 94 18 [l0, l1, l2, l3, some (.int x0), l5] s h = am_E P 94 20 [l0, l1, l2, l3, some (.int x0), l5] (.int x0 :: s) h) ∧
  (∀ (P : Nat × Nat) (l0 : Option Value) (l1 : Option Value) (l2 : Option Value) (l3 : Option Value) (l4 : Option Value) (l5 : Option Value) (a0 : Nat) (x0 : Int32) (x1 : Int32) (h : am_H), am_E P 94 20 [l0, l1, l2, l3, l4, l5] [.int x1, .int x0, .ref a0] h = if am_cls h a0 = some 9 then (am_E P 80 0 [some (.ref a0), some (.int x0), some (.int x1), none, none] [] h).bind (fun q => am_E P 94 23 [l0, l1, l2, l3, l4, l5] (q.1.toList ++ []) q.2) else none) ∧
  (∀ (P : Nat × Nat) (l0 : Option Value) (l1 : Option Value) (l2 : Option Value) (l3 : Option Value) (l4 : Option Value) (l5 : Option Value) (x0 : Int32) (s : List Value) (h : am_H), am_E P 94 23 [l0, l1, l2, l3, l4, l5] (.int x0 :: s) h = am_E P 94 25 [l0, l1, l2, l3, l4, some (.int x0)] s h) ∧
  (∀ (P : Nat × Nat) (l0 : Option Value) (l1 : Option Value) (l2 : Option Value) (l3 : Option Value) (l4 : Option Value) (x0 : Int32) (s : List Value) (h : am_H), am_E P 94 25 [l0, l1, l2, l3, l4, some (.int x0)] s h = am_E P 94 27 [l0, l1, l2, l3, l4, some (.int x0)] (.int x0 :: s) h) ∧
  (∀ (P : Nat × Nat) (l0 : Option Value) (l1 : Option Value) (l2 : Option Value) (l3 : Option Value) (l4 : Option Value) (l5 : Option Value) (x0 : Int32) (s : List Value) (h : am_H), am_E P 94 27 [l0, l1, l2, l3, l4, l5] (.int x0 :: s) h = if x0 = 0 then am_E P 94 85 [l0, l1, l2, l3, l4, l5] s h else am_E P 94 30 [l0, l1, l2, l3, l4, l5] s h) ∧
  (∀ (P : Nat × Nat) (l0 : Option Value) (l1 : Option Value) (l2 : Option Value) (l3 : Option Value) (l4 : Option Value) (x0 : Int32) (s : List Value) (h : am_H), am_E P 94 30 [l0, l1, l2, l3, l4, some (.int x0)] s h = am_E P 94 32 [l0, l1, l2, l3, l4, some (.int x0)] (.int x0 :: s) h) ∧
  (∀ (P : Nat × Nat) (l0 : Option Value) (l1 : Option Value) (l2 : Option Value) (l3 : Option Value) (l4 : Option Value) (l5 : Option Value) (s : List Value) (h : am_H), am_E P 94 32 [l0, l1, l2, l3, l4, l5] s h = am_E P 94 33 [l0, l1, l2, l3, l4, l5] (.int 3 :: s) h) ∧
  (∀ (P : Nat × Nat) (l0 : Option Value) (l1 : Option Value) (l2 : Option Value) (l3 : Option Value) (l4 : Option Value) (l5 : Option Value) (x0 : Int32) (x1 : Int32) (s : List Value) (h : am_H), am_E P 94 33 [l0, l1, l2, l3, l4, l5] (.int x1 :: .int x0 :: s) h = if x0 = x1 then am_E P 94 85 [l0, l1, l2, l3, l4, l5] s h else am_E P 94 36 [l0, l1, l2, l3, l4, l5] s h) ∧
  (∀ (P : Nat × Nat) (l1 : Option Value) (l2 : Option Value) (l3 : Option Value) (l4 : Option Value) (l5 : Option Value) (a0 : Nat) (s : List Value) (h : am_H), am_E P 94 36 [some (.ref a0), l1, l2, l3, l4, l5] s h = am_E P 94 37 [some (.ref a0), l1, l2, l3, l4, l5] (.ref a0 :: s) h) ∧
  (∀ (P : Nat × Nat) (l1 : Option Value) (l2 : Option Value) (l3 : Option Value) (l4 : Option Value) (l5 : Option Value) (s : List Value) (h : am_H), am_E P 94 36 [some .null, l1, l2, l3, l4, l5] s h = am_E P 94 37 [some .null, l1, l2, l3, l4, l5] (.null :: s) h) ∧
  (∀ (P : Nat × Nat) (l0 : Option Value) (l2 : Option Value) (l3 : Option Value) (l4 : Option Value) (l5 : Option Value) (x0 : Int32) (s : List Value) (h : am_H), am_E P 94 37 [l0, some (.int x0), l2, l3, l4, l5] s h = am_E P 94 38 [l0, some (.int x0), l2, l3, l4, l5] (.int x0 :: s) h) ∧
  (∀ (P : Nat × Nat) (l0 : Option Value) (l1 : Option Value) (l2 : Option Value) (l3 : Option Value) (l5 : Option Value) (x0 : Int32) (s : List Value) (h : am_H), am_E P 94 38 [l0, l1, l2, l3, some (.int x0), l5] s h = am_E P 94 40 [l0, l1, l2, l3, some (.int x0), l5] (.int x0 :: s) h) ∧
  (∀ (P : Nat × Nat) (l0 : Option Value) (l1 : Option Value) (l2 : Option Value) (l3 : Option Value) (l4 : Option Value) (l5 : Option Value) (a0 : Nat) (x0 : Int32) (x1 : Int32) (h : am_H), am_E P 94 40 [l0, l1, l2, l3, l4, l5] [.int x1, .int x0, .ref a0] h = if am_cls h a0 = some 9 then (am_E P 81 0 [some (.ref a0), some (.int x0), some (.int x1), none] [] h).bind (fun q => am_E P 94 43 [l0, l1, l2, l3, l4, l5] (q.1.toList ++ []) q.2) else none) ∧
  (∀ (P : Nat × Nat) (l0 : Option Value) (l1 : Option Value) (l3 : Option Value) (l4 : Option Value) (l5 : Option Value) (x0 : Int32) (s : List Value) (h : am_H), am_E P 94 43 [l0, l1, some (.int x0), l3, l4, l5] s h = am_E P 94 44 [l0, l1, some (.int x0), l3, l4, l5] (.int x0 :: s) h) ∧
  (∀ (P : Nat × Nat) (l0 : Option Value) (l1 : Option Value) (l2 : Option Value) (l3 : Option Value) (l4 : Option Value) (l5 : Option Value) (x0 : Int32) (x1 : Int32) (s : List Value) (h : am_H), am_E P 94 44 [l0, l1, l2, l3, l4, l5] (.int x1 :: .int x0 :: s) h = if x0 < x1 then am_E P 94 85 [l0, l1, l2, l3, l4, l5] s h else am_E P 94 47 [l0, l1, l2, l3, l4, l5] s h) ∧
  (∀ (P : Nat × Nat) (l1 : Option Value) (l2 : Option Value) (l3 : Option Value) (l4 : Option Value) (l5 : Option Value) (a0 : Nat) (s : List Value) (h : am_H), am_E P 94 47 [some (.ref a0), l1, l2, l3, l4, l5] s h = am_E P 94 48 [some (.ref a0), l1, l2, l3, l4, l5] (.ref a0 :: s) h) ∧
  (∀ (P : Nat × Nat) (l1 : Option Value) (l2 : Option Value) (l3 : Option Value) (l4 : Option Value) (l5 : Option Value) (s : List Value) (h : am_H), am_E P 94 47 [some .null, l1, l2, l3, l4, l5] s h = am_E P 94 48 [some .null, l1, l2, l3, l4, l5] (.null :: s) h) ∧
  (∀ (P : Nat × Nat) (l0 : Option Value) (l1 : Option Value) (l2 : Option Value) (l3 : Option Value) (l4 : Option Value) (l5 : Option Value) (s : List Value) (h : am_H), am_E P 94 48 [l0, l1, l2, l3, l4, l5] s h = am_E P 94 49 [l0, l1, l2, l3, l4, l5] (.int 4 :: s) h) ∧
  (∀ (P : Nat × Nat) (l0 : Option Value) (l2 : Option Value) (l3 : Option Value) (l4 : Option Value) (l5 : Option Value) (x0 : Int32) (s : List Value) (h : am_H), am_E P 94 49 [l0, some (.int x0), l2, l3, l4, l5] s h = am_E P 94 50 [l0, some (.int x0), l2, l3, l4, l5] (.int x0 :: s) h) ∧
  (∀ (P : Nat × Nat) (l0 : Option Value) (l1 : Option Value) (l2 : Option Value) (l3 : Option Value) (l5 : Option Value) (x0 : Int32) (s : List Value) (h : am_H), am_E P 94 50 [l0, l1, l2, l3, some (.int x0), l5] s h = am_E P 94 52 [l0, l1, l2, l3, some (.int x0), l5] (.int x0 :: s) h) ∧
  (∀ (P : Nat × Nat) (l0 : Option Value) (l1 : Option Value) (l2 : Option Value) (l3 : Option Value) (l4 : Option Value) (l5 : Option Value) (s : List Value) (h : am_H), am_E P 94 52 [l0, l1, l2, l3, l4, l5] s h = am_E P 94 54 [l0, l1, l2, l3, l4, l5] (.int (-6) :: s) h) ∧
  (∀ (P : Nat × Nat) (l0 : Option Value) (l1 : Option Value) (l2 : Option Value) (l3 : Option Value) (l4 : Option Value) (l5 : Option Value) (s : List Value) (h : am_H), am_E P 94 54 [l0, l1, l2, l3, l4, l5] s h = am_E P 94 56 [l0, l1, l2, l3, l4, l5] (.int (-6) :: s) h) ∧
  (∀ (P : Nat × Nat) (l0 : Option Value) (l1 : Option Value) (l2 : Option Value) (l3 : Option Value) (l4 : Option Value) (l5 : Option Value) (a0 : Nat) (x0 : Int32) (x1 : Int32) (x2 : Int32) (x3 : Int32) (x4 : Int32) (h : am_H), am_E P 94 56 [l0, l1, l2, l3, l4, l5] [.int x4, .int x3, .int x2, .int x1, .int x0, .ref a0] h = if am_cls h a0 = some 9 then (am_E P 78 0 [some (.ref a0), some (.int x0), some (.int x1), some (.int x2), some (.int x3), some (.int x4)] [] h).bind (fun q => am_E P 94 59 [l0, l1, l2, l3, l4, l5] (q.1.toList ++ []) q.2) else none) ∧
  (∀ (P : Nat × Nat) (l0 : Option Value) (l1 : Option Value) (l2 : Option Value) (l3 : Option Value) (l4 : Option Value) (l5 : Option Value) (x0 : Int32) (s : List Value) (h : am_H), am_E P 94 59 [l0, l1, l2, l3, l4, l5] (.int x0 :: s) h = if x0 = 0 then am_E P 94 62 [l0, l1, l2, l3, l4, l5] s h else am_E P 94 65 [l0, l1, l2, l3, l4, l5] s h) ∧
  (∀ (P : Nat × Nat) (l0 : Option Value) (l1 : Option Value) (l2 : Option Value) (l3 : Option Value) (l4 : Option Value) (l5 : Option Value) (s : List Value) (h : am_H), am_E P 94 62 [l0, l1, l2, l3, l4, l5] s h = am_E P 94 64 [l0, l1, l2, l3, l4, l5] (.int (-5) :: s) h) ∧
  (∀ (P : Nat × Nat) (l0 : Option Value) (l1 : Option Value) (l2 : Option Value) (l3 : Option Value) (l4 : Option Value) (l5 : Option Value) (x0 : Int32) (h : am_H), am_E P 94 64 [l0, l1, l2, l3, l4, l5] [.int x0] h = some (some (.int x0), h)) ∧
  (∀ (P : Nat × Nat) (l1 : Option Value) (l2 : Option Value) (l3 : Option Value) (l4 : Option Value) (l5 : Option Value) (a0 : Nat) (s : List Value) (h : am_H), am_E P 94 65 [some (.ref a0), l1, l2, l3, l4, l5] s h = am_E P 94 66 [some (.ref a0), l1, l2, l3, l4, l5] (.ref a0 :: s) h) ∧
  (∀ (P : Nat × Nat) (l1 : Option Value) (l2 : Option Value) (l3 : Option Value) (l4 : Option Value) (l5 : Option Value) (s : List Value) (h : am_H), am_E P 94 65 [some .null, l1, l2, l3, l4, l5] s h = am_E P 94 66 [some .null, l1, l2, l3, l4, l5] (.null :: s) h) ∧
  (∀ (P : Nat × Nat) (l0 : Option Value) (l1 : Option Value) (l2 : Option Value) (l3 : Option Value) (l4 : Option Value) (l5 : Option Value) (a0 : Nat) (s : List Value) (h : am_H), am_E P 94 66 [l0, l1, l2, l3, l4, l5] (.ref a0 :: s) h = am_E P 94 67 [l0, l1, l2, l3, l4, l5] (.ref a0 :: .ref a0 :: s) h) ∧
  (∀ (P : Nat × Nat) (l0 : Option Value) (l1 : Option Value) (l2 : Option Value) (l3 : Option Value) (l4 : Option Value) (l5 : Option Value) (a0 : Nat) (s : List Value) (h : am_H), am_E P 94 67 [l0, l1, l2, l3, l4, l5] (.ref a0 :: s) h = (am_g1 h a0 9 33).bind (fun v => am_E P 94 70 [l0, l1, l2, l3, l4, l5] (v :: s) h)) ∧
  (∀ (P : Nat × Nat) (l0 : Option Value) (l1 : Option Value) (l2 : Option Value) (l3 : Option Value) (l4 : Option Value) (l5 : Option Value) (s : List Value) (h : am_H), am_E P 94 70 [l0, l1, l2, l3, l4, l5] s h = am_E P 94 71 [l0, l1, l2, l3, l4, l5] (.int 1 :: s) h) ∧
  (∀ (P : Nat × Nat) (l0 : Option Value) (l1 : Option Value) (l2 : Option Value) (l3 : Option Value) (l4 : Option Value) (l5 : Option Value) (x0 : Int32) (x1 : Int32) (s : List Value) (h : am_H), am_E P 94 71 [l0, l1, l2, l3, l4, l5] (.int x1 :: .int x0 :: s) h = am_E P 94 72 [l0, l1, l2, l3, l4, l5] (.int (x0 + x1) :: s) h) ∧
  (∀ (P : Nat × Nat) (l0 : Option Value) (l1 : Option Value) (l2 : Option Value) (l3 : Option Value) (l4 : Option Value) (l5 : Option Value) (a0 : Nat) (x0 : Int32) (s : List Value) (h : am_H), am_E P 94 72 [l0, l1, l2, l3, l4, l5] (.int x0 :: .ref a0 :: s) h = (am_p1 h a0 9 33 (.int x0)).bind (fun h => am_E P 94 75 [l0, l1, l2, l3, l4, l5] s h)) ∧
  (∀ (P : Nat × Nat) (l0 : Option Value) (l1 : Option Value) (l2 : Option Value) (l4 : Option Value) (l5 : Option Value) (x0 : Int32) (s : List Value) (h : am_H), am_E P 94 75 [l0, l1, l2, some (.int x0), l4, l5] s h = am_E P 94 76 [l0, l1, l2, some (.int x0), l4, l5] (.int x0 :: s) h) ∧
  (∀ (P : Nat × Nat) (l1 : Option Value) (l2 : Option Value) (l3 : Option Value) (l4 : Option Value) (l5 : Option Value) (a0 : Nat) (s : List Value) (h : am_H), am_E P 94 76 [some (.ref a0), l1, l2, l3, l4, l5] s h = am_E P 94 77 [some (.ref a0), l1, l2, l3, l4, l5] (.ref a0 :: s) h) ∧
  (∀ (P : Nat × Nat) (l1 : Option Value) (l2 : Option Value) (l3 : Option Value) (l4 : Option Value) (l5 : Option Value) (s : List Value) (h : am_H), am_E P 94 76 [some .null, l1, l2, l3, l4, l5] s h = am_E P 94 77 [some .null, l1, l2, l3, l4, l5] (.null :: s) h) ∧
  (∀ (P : Nat × Nat) (l0 : Option Value) (l2 : Option Value) (l3 : Option Value) (l4 : Option Value) (l5 : Option Value) (x0 : Int32) (s : List Value) (h : am_H), am_E P 94 77 [l0, some (.int x0), l2, l3, l4, l5] s h = am_E P 94 78 [l0, some (.int x0), l2, l3, l4, l5] (.int x0 :: s) h) ∧
  (∀ (P : Nat × Nat) (l0 : Option Value) (l1 : Option Value) (l2 : Option Value) (l3 : Option Value) (l5 : Option Value) (x0 : Int32) (s : List Value) (h : am_H), am_E P 94 78 [l0, l1, l2, l3, some (.int x0), l5] s h = am_E P 94 80 [l0, l1, l2, l3, some (.int x0), l5] (.int x0 :: s) h) ∧
  (∀ (P : Nat × Nat) (l0 : Option Value) (l1 : Option Value) (l2 : Option Value) (l3 : Option Value) (l4 : Option Value) (l5 : Option Value) (a0 : Nat) (x0 : Int32) (x1 : Int32) (v0 : Value) (h : am_H), am_E P 94 80 [l0, l1, l2, l3, l4, l5] [.int x1, .int x0, .ref a0, v0] h = if am_cls h a0 = some 9 then (am_E P 79 0 [some (.ref a0), some (.int x0), some (.int x1), none, none] [] h).bind (fun q => am_E P 94 83 [l0, l1, l2, l3, l4, l5] (q.1.toList ++ [v0]) q.2) else none) ∧
  (∀ (P : Nat × Nat) (l0 : Option Value) (l1 : Option Value) (l2 : Option Value) (l3 : Option Value) (l4 : Option Value) (l5 : Option Value) (x0 : Int32) (x1 : Int32) (s : List Value) (h : am_H), am_E P 94 83 [l0, l1, l2, l3, l4, l5] (.int x1 :: .int x0 :: s) h = am_E P 94 84 [l0, l1, l2, l3, l4, l5] (.int (x0 + x1) :: s) h) ∧
  (∀ (P : Nat × Nat) (l0 : Option Value) (l1 : Option Value) (l2 : Option Value) (l3 : Option Value) (l4 : Option Value) (l5 : Option Value) (x0 : Int32) (s : List Value) (h : am_H), am_E P 94 84 [l0, l1, l2, l3, l4, l5] (.int x0 :: s) h = am_E P 94 85 [l0, l1, l2, some (.int x0), l4, l5] s h) ∧
  (∀ (P : Nat × Nat) (l0 : Option Value) (l1 : Option Value) (l2 : Option Value) (l3 : Option Value) (l5 : Option Value) (x0 : Int32) (s : List Value) (h : am_H), am_E P 94 85 [l0, l1, l2, l3, some (.int x0), l5] s h = am_E P 94 88 [l0, l1, l2, l3, some (.int (x0 + 1)), l5] s h) ∧
  (∀ (P : Nat × Nat) (l0 : Option Value) (l1 : Option Value) (l2 : Option Value) (l3 : Option Value) (l4 : Option Value) (l5 : Option Value) (s : List Value) (h : am_H), am_E P 94 88 [l0, l1, l2, l3, l4, l5] s h = am_E P 94 5 [l0, l1, l2, l3, l4, l5] s h) ∧
  (∀ (P : Nat × Nat) (l0 : Option Value) (l1 : Option Value) (l2 : Option Value) (l4 : Option Value) (l5 : Option Value) (x0 : Int32) (s : List Value) (h : am_H), am_E P 94 91 [l0, l1, l2, some (.int x0), l4, l5] s h = am_E P 94 92 [l0, l1, l2, some (.int x0), l4, l5] (.int x0 :: s) h) ∧
  (∀ (P : Nat × Nat) (l0 : Option Value) (l1 : Option Value) (l2 : Option Value) (l3 : Option Value) (l4 : Option Value) (l5 : Option Value) (x0 : Int32) (h : am_H), am_E P 94 92 [l0, l1, l2, l3, l4, l5] [.int x0] h = some (some (.int x0), h)) :=
  ⟨fun _ _ _ _ _ _ _ _ _ => er_go rfl rfl,
  fun _ _ _ _ _ _ _ _ _ _ => er_go rfl rfl,
  fun _ _ _ _ _ _ _ _ _ => er_go rfl rfl,
  fun _ _ _ _ _ _ _ _ _ _ => er_go rfl rfl,
  fun _ _ _ _ _ _ _ _ _ => er_go rfl rfl,
  fun _ _ _ _ _ _ _ _ => er_go rfl rfl,
  fun _ _ _ _ _ _ _ _ _ _ => er_get1 rfl,
  fun _ _ _ _ _ _ _ _ _ => er_go rfl rfl,
  fun _ _ _ _ _ _ _ _ _ _ _ => er_iald rfl,
  fun _ _ _ _ _ _ _ _ _ _ _ => er_ic_ge rfl,
  fun _ _ _ _ _ _ _ _ _ => er_go rfl rfl,
  fun _ _ _ _ _ _ _ _ => er_go rfl rfl,
  fun _ _ _ _ _ _ _ _ _ => er_go rfl rfl,
  fun _ _ _ _ _ _ _ _ _ => er_go rfl rfl,
  fun _ _ _ _ _ _ _ _ _ _ _ => er_callV rfl rfl rfl rfl,
  fun _ _ _ _ _ _ _ _ _ _ => er_go rfl rfl,
  fun _ _ _ _ _ _ _ _ _ => er_go rfl rfl,
  fun _ _ _ _ _ _ _ _ _ _ => er_if_eq rfl,
  fun _ _ _ _ _ _ _ _ _ => er_go rfl rfl,
  fun _ _ _ _ _ _ _ _ _ => er_go rfl rfl,
  fun _ _ _ _ _ _ _ _ _ _ _ => er_ic_eq rfl,
  fun _ _ _ _ _ _ _ _ _ => er_go rfl rfl,
  fun _ _ _ _ _ _ _ _ => er_go rfl rfl,
  fun _ _ _ _ _ _ _ _ _ => er_go rfl rfl,
  fun _ _ _ _ _ _ _ _ _ => er_go rfl rfl,
  fun _ _ _ _ _ _ _ _ _ _ _ => er_callV rfl rfl rfl rfl,
  fun _ _ _ _ _ _ _ _ _ => er_go rfl rfl,
  fun _ _ _ _ _ _ _ _ _ _ _ => er_ic_lt rfl,
  fun _ _ _ _ _ _ _ _ _ => er_go rfl rfl,
  fun _ _ _ _ _ _ _ _ => er_go rfl rfl,
  fun _ _ _ _ _ _ _ _ _ => er_go rfl rfl,
  fun _ _ _ _ _ _ _ _ _ => er_go rfl rfl,
  fun _ _ _ _ _ _ _ _ _ => er_go rfl rfl,
  fun _ _ _ _ _ _ _ _ _ => er_go rfl rfl,
  fun _ _ _ _ _ _ _ _ _ => er_go rfl rfl,
  fun _ _ _ _ _ _ _ _ _ _ _ _ _ _ => er_callV rfl rfl rfl rfl,
  fun _ _ _ _ _ _ _ _ _ _ => er_if_ne rfl,
  fun _ _ _ _ _ _ _ _ _ => er_go rfl rfl,
  fun _ _ _ _ _ _ _ _ _ => er_ret rfl rfl,
  fun _ _ _ _ _ _ _ _ _ => er_go rfl rfl,
  fun _ _ _ _ _ _ _ _ => er_go rfl rfl,
  fun _ _ _ _ _ _ _ _ _ _ => er_go rfl rfl,
  fun _ _ _ _ _ _ _ _ _ _ => er_get1 rfl,
  fun _ _ _ _ _ _ _ _ _ => er_go rfl rfl,
  fun _ _ _ _ _ _ _ _ _ _ _ => er_go rfl rfl,
  fun _ _ _ _ _ _ _ _ _ _ _ => er_put1 rfl rfl,
  fun _ _ _ _ _ _ _ _ _ => er_go rfl rfl,
  fun _ _ _ _ _ _ _ _ _ => er_go rfl rfl,
  fun _ _ _ _ _ _ _ _ => er_go rfl rfl,
  fun _ _ _ _ _ _ _ _ _ => er_go rfl rfl,
  fun _ _ _ _ _ _ _ _ _ => er_go rfl rfl,
  fun _ _ _ _ _ _ _ _ _ _ _ _ => er_callV rfl rfl rfl rfl,
  fun _ _ _ _ _ _ _ _ _ _ _ => er_go rfl rfl,
  fun _ _ _ _ _ _ _ _ _ _ => er_go rfl rfl,
  fun _ _ _ _ _ _ _ _ _ => er_go rfl rfl,
  fun _ _ _ _ _ _ _ _ _ => er_go rfl rfl,
  fun _ _ _ _ _ _ _ _ _ => er_go rfl rfl,
  fun _ _ _ _ _ _ _ _ _ => er_ret rfl rfl⟩
set_option maxRecDepth 100000 in
theorem hd94_5 : ∀ (P : Nat × Nat) (l0 : Option Value) (l1 : Option Value) (l2 : Option Value) (l3 : Option Value) (l5 : Option Value) (x0 : Int32) (s : List Value) (h : am_H), am_E P 94 5 [l0, l1, l2, l3, some (.int x0), l5] s h = am_E P 94 7 [l0, l1, l2, l3, some (.int x0), l5] (.int x0 :: s) h := fun _ _ _ _ _ _ _ _ _ => er_go rfl rfl
set_option maxRecDepth 100000 in
/-- TwoStepOutputsModel.give(I)I -/
theorem r95 : (∀ (P : Nat × Nat) (l0 : Option Value) (l2 : Option Value) (l3 : Option Value) (l4 : Option Value) (x0 : Int32) (s : List Value) (h : am_H), am_E P 95 0 [l0, some (.int x0), l2, l3, l4] s h = am_E P 95 1 [l0, some (.int x0), l2, l3, l4] (.int x0 :: s) h) ∧
  (∀ (P : Nat × Nat) (l0 : Option Value) (l1 : Option Value) (l2 : Option Value) (l3 : Option Value) (l4 : Option Value) (s : List Value) (h : am_H), am_E P 95 1 [l0, l1, l2, l3, l4] s h = am_E P 95 2 [l0, l1, l2, l3, l4] (.int 0 :: s) h) ∧
  (∀ (P : Nat × Nat) (l0 : Option Value) (l1 : Option Value) (l2 : Option Value) (l3 : Option Value) (l4 : Option Value) (s : List Value) (h : am_H), am_E P 95 2 [l0, l1, l2, l3, l4] s h = am_E P 95 4 [l0, l1, l2, l3, l4] (.int 1000000 :: s) h) ∧
  (∀ (P : Nat × Nat) (l0 : Option Value) (l1 : Option Value) (l2 : Option Value) (l3 : Option Value) (l4 : Option Value) (x0 : Int32) (x1 : Int32) (x2 : Int32) (h : am_H), am_E P 95 4 [l0, l1, l2, l3, l4] [.int x2, .int x1, .int x0] h = (am_E P 74 0 [some (.int x0), some (.int x1), some (.int x2)] [] h).bind (fun q => am_E P 95 7 [l0, l1, l2, l3, l4] (q.1.toList ++ []) q.2)) ∧
  (∀ (P : Nat × Nat) (l0 : Option Value) (l1 : Option Value) (l2 : Option Value) (l3 : Option Value) (l4 : Option Value) (x0 : Int32) (s : List Value) (h : am_H), am_E P 95 7 [l0, l1, l2, l3, l4] (.int x0 :: s) h = if x0 = 0 then am_E P 95 10 [l0, l1, l2, l3, l4] s h else am_E P 95 27 [l0, l1, l2, l3, l4] s h) ∧
  (∀ (P : Nat × Nat) (l1 : Option Value) (l2 : Option Value) (l3 : Option Value) (l4 : Option Value) (a0 : Nat) (s : List Value) (h : am_H), am_E P 95 10 [some (.ref a0), l1, l2, l3, l4] s h = am_E P 95 11 [some (.ref a0), l1, l2, l3, l4] (.ref a0 :: s) h) ∧
  (∀ (P : Nat × Nat) (l1 : Option Value) (l2 : Option Value) (l3 : Option Value) (l4 : Option Value) (s : List Value) (h : am_H), am_E P 95 10 [some .null, l1, l2, l3, l4] s h = am_E P 95 11 [some .null, l1, l2, l3, l4] (.null :: s) h) ∧
  (∀ (P : Nat × Nat) (l0 : Option Value) (l1 : Option Value) (l2 : Option Value) (l3 : Option Value) (l4 : Option Value) (a0 : Nat) (s : List Value) (h : am_H), am_E P 95 11 [l0, l1, l2, l3, l4] (.ref a0 :: s) h = (am_g1 h a0 9 25).bind (fun v => am_E P 95 14 [l0, l1, l2, l3, l4] (v :: s) h)) ∧
  (∀ (P : Nat × Nat) (l0 : Option Value) (l1 : Option Value) (l2 : Option Value) (l3 : Option Value) (l4 : Option Value) (s : List Value) (h : am_H), am_E P 95 14 [l0, l1, l2, l3, l4] s h = am_E P 95 16 [l0, l1, l2, l3, l4] (.int (-6) :: s) h) ∧
  (∀ (P : Nat × Nat) (l0 : Option Value) (l1 : Option Value) (l2 : Option Value) (l3 : Option Value) (l4 : Option Value) (x0 : Int32) (x1 : Int32) (s : List Value) (h : am_H), am_E P 95 16 [l0, l1, l2, l3, l4] (.int x1 :: .int x0 :: s) h = if x0 = x1 then am_E P 95 30 [l0, l1, l2, l3, l4] s h else am_E P 95 19 [l0, l1, l2, l3, l4] s h) ∧
  (∀ (P : Nat × Nat) (l0 : Option Value) (l2 : Option Value) (l3 : Option Value) (l4 : Option Value) (x0 : Int32) (s : List Value) (h : am_H), am_E P 95 19 [l0, some (.int x0), l2, l3, l4] s h = am_E P 95 20 [l0, some (.int x0), l2, l3, l4] (.int x0 :: s) h) ∧
  (∀ (P : Nat × Nat) (l1 : Option Value) (l2 : Option Value) (l3 : Option Value) (l4 : Option Value) (a0 : Nat) (s : List Value) (h : am_H), am_E P 95 20 [some (.ref a0), l1, l2, l3, l4] s h = am_E P 95 21 [some (.ref a0), l1, l2, l3, l4] (.ref a0 :: s) h) ∧
  (∀ (P : Nat × Nat) (l1 : Option Value) (l2 : Option Value) (l3 : Option Value) (l4 : Option Value) (s : List Value) (h : am_H), am_E P 95 20 [some .null, l1, l2, l3, l4] s h = am_E P 95 21 [some .null, l1, l2, l3, l4] (.null :: s) h) ∧
  (∀ (P : Nat × Nat) (l0 : Option Value) (l1 : Option Value) (l2 : Option Value) (l3 : Option Value) (l4 : Option Value) (a0 : Nat) (s : List Value) (h : am_H), am_E P 95 21 [l0, l1, l2, l3, l4] (.ref a0 :: s) h = (am_g1 h a0 9 25).bind (fun v => am_E P 95 24 [l0, l1, l2, l3, l4] (v :: s) h)) ∧
  (∀ (P : Nat × Nat) (l0 : Option Value) (l1 : Option Value) (l2 : Option Value) (l3 : Option Value) (l4 : Option Value) (x0 : Int32) (x1 : Int32) (s : List Value) (h : am_H), am_E P 95 24 [l0, l1, l2, l3, l4] (.int x1 :: .int x0 :: s) h = if x1 < x0 then am_E P 95 30 [l0, l1, l2, l3, l4] s h else am_E P 95 27 [l0, l1, l2, l3, l4] s h) ∧
  (∀ (P : Nat × Nat) (l0 : Option Value) (l1 : Option Value) (l2 : Option Value) (l3 : Option Value) (l4 : Option Value) (s : List Value) (h : am_H), am_E P 95 27 [l0, l1, l2, l3, l4] s h = am_E P 95 29 [l0, l1, l2, l3, l4] (.int (-2) :: s) h) ∧
  (∀ (P : Nat × Nat) (l0 : Option Value) (l1 : Option Value) (l2 : Option Value) (l3 : Option Value) (l4 : Option Value) (x0 : Int32) (h : am_H), am_E P 95 29 [l0, l1, l2, l3, l4] [.int x0] h = some (some (.int x0), h)) ∧
  (∀ (P : Nat × Nat) (l1 : Option Value) (l2 : Option Value) (l3 : Option Value) (l4 : Option Value) (a0 : Nat) (s : List Value) (h : am_H), am_E P 95 30 [some (.ref a0), l1, l2, l3, l4] s h = am_E P 95 31 [some (.ref a0), l1, l2, l3, l4] (.ref a0 :: s) h) ∧
  (∀ (P : Nat × Nat) (l1 : Option Value) (l2 : Option Value) (l3 : Option Value) (l4 : Option Value) (s : List Value) (h : am_H), am_E P 95 30 [some .null, l1, l2, l3, l4] s h = am_E P 95 31 [some .null, l1, l2, l3, l4] (.null :: s) h) ∧
  (∀ (P : Nat × Nat) (l0 : Option Value) (l1 : Option Value) (l2 : Option Value) (l3 : Option Value) (l4 : Option Value) (a0 : Nat) (s : List Value) (h : am_H), am_E P 95 31 [l0, l1, l2, l3, l4] (.ref a0 :: s) h = (am_g1 h a0 9 30).bind (fun v => am_E P 95 34 [l0, l1, l2, l3, l4] (v :: s) h)) ∧
  (∀ (P : Nat × Nat) (l0 : Option Value) (l1 : Option Value) (l2 : Option Value) (l3 : Option Value) (l4 : Option Value) (x0 : Int32) (s : List Value) (h : am_H), am_E P 95 34 [l0, l1, l2, l3, l4] (.int x0 :: s) h = if x0 = 0 then am_E P 95 40 [l0, l1, l2, l3, l4] s h else am_E P 95 37 [l0, l1, l2, l3, l4] s h) ∧
  (∀ (P : Nat × Nat) (l0 : Option Value) (l1 : Option Value) (l2 : Option Value) (l3 : Option Value) (l4 : Option Value) (s : List Value) (h : am_H), am_E P 95 37 [l0, l1, l2, l3, l4] s h = am_E P 95 39 [l0, l1, l2, l3, l4] (.int (-5) :: s) h) ∧
  (∀ (P : Nat × Nat) (l0 : Option Value) (l1 : Option Value) (l2 : Option Value) (l3 : Option Value) (l4 : Option Value) (x0 : Int32) (h : am_H), am_E P 95 39 [l0, l1, l2, l3, l4] [.int x0] h = some (some (.int x0), h)) ∧
  (∀ (P : Nat × Nat) (l0 : Option Value) (l1 : Option Value) (l2 : Option Value) (l3 : Option Value) (l4 : Option Value) (s : List Value) (h : am_H), am_E P 95 40 [l0, l1, l2, l3, l4] s h = am_E P 95 41 [l0, l1, l2, l3, l4] (.int 0 :: s) h) ∧
  (∀ (P : Nat × Nat) (l0 : Option Value) (l1 : Option Value) (l2 : Option Value) (l3 : Option Value) (l4 : Option Value) (x0 : Int32) (s : List Value) (h : am_H), am_E P 95 41 [l0, l1, l2, l3, l4] (.int x0 :: s) h = am_E P 95 42 [l0, l1, some (.int x0), l3, l4] s h) ∧
  (∀ (P : Nat × Nat) (l0 : Option Value) (l1 : Option Value) (l2 : Option Value) (l3 : Option Value) (l4 : Option Value) (s : List Value) (h : am_H), am_E P 95 42 [l0, l1, l2, l3, l4] s h = am_E P 95 43 [l0, l1, l2, l3, l4] (.int 0 :: s) h) ∧
  (∀ (P : Nat × Nat) (l0 : Option Value) (l1 : Option Value) (l2 : Option Value) (l3 : Option Value) (l4 : Option Value) (x0 : Int32) (s : List Value) (h : am_H), am_E P 95 43 [l0, l1, l2, l3, l4] (.int x0 :: s) h = am_E P 95 44 [l0, l1, l2, some (.int x0), l4] s h) ∧
  (∀ (P : Nat × Nat) (l1 : Option Value) (l2 : Option Value) (l3 : Option Value) (l4 : Option Value) (a0 : Nat) (s : List Value) (h : am_H), am_E P 95 45 [some (.ref a0), l1, l2, l3, l4] s h = am_E P 95 46 [some (.ref a0), l1, l2, l3, l4] (.ref a0 :: s) h) ∧
  (∀ (P : Nat × Nat) (l1 : Option Value) (l2 : Option Value) (l3 : Option Value) (l4 : Option Value) (s : List Value) (h : am_H), am_E P 95 45 [some .null, l1, l2, l3, l4] s h = am_E P 95 46 [some .null, l1, l2, l3, l4] (.null :: s) h) ∧
  (∀ (P : Nat × Nat) (l0 : Option Value) (l1 : Option Value) (l2 : Option Value) (l3 : Option Value) (l4 : Option Value) (a0 : Nat) (s : List Value) (h : am_H), am_E P 95 46 [l0, l1, l2, l3, l4] (.ref a0 :: s) h = (am_g1 h a0 9 0).bind (fun v => am_E P 95 49 [l0, l1, l2, l3, l4] (v :: s) h)) ∧
  (∀ (P : Nat × Nat) (l0 : Option Value) (l1 : Option Value) (l2 : Option Value) (l3 : Option Value) (l4 : Option Value) (x0 : Int32) (x1 : Int32) (s : List Value) (h : am_H), am_E P 95 49 [l0, l1, l2, l3, l4] (.int x1 :: .int x0 :: s) h = if x1 ≤ x0 then am_E P 95 93 [l0, l1, l2, l3, l4] s h else am_E P 95 52 [l0, l1, l2, l3, l4] s h) ∧
  (∀ (P : Nat × Nat) (l1 : Option Value) (l2 : Option Value) (l3 : Option Value) (l4 : Option Value) (a0 : Nat) (s : List Value) (h : am_H), am_E P 95 52 [some (.ref a0), l1, l2, l3, l4] s h = am_E P 95 53 [some (.ref a0), l1, l2, l3, l4] (.ref a0 :: s) h) ∧
  (∀ (P : Nat × Nat) (l1 : Option Value) (l2 : Option Value) (l3 : Option Value) (l4 : Option Value) (s : List Value) (h : am_H), am_E P 95 52 [some .null, l1, l2, l3, l4] s h = am_E P 95 53 [some .null, l1, l2, l3, l4] (.null :: s) h) ∧
  (∀ (P : Nat × Nat) (l0 : Option Value) (l1 : Option Value) (l2 : Option Value) (l4 : Option Value) (x0 : Int32) (s : List Value) (h : am_H), am_E P 95 53 [l0, l1, l2, some (.int x0), l4] s h = am_E P 95 54 [l0, l1, l2, some (.int x0), l4] (.int x0 :: s) h) ∧
  (∀ (P : Nat × Nat) (l0 : Option Value) (l2 : Option Value) (l3 : Option Value) (l4 : Option Value) (x0 : Int32) (s : List Value) (h : am_H), am_E P 95 54 [l0, some (.int x0), l2, l3, l4] s h = am_E P 95 55 [l0, some (.int x0), l2, l3, l4] (.int x0 :: s) h) ∧
  (∀ (P : Nat × Nat) (l0 : Option Value) (l1 : Option Value) (l2 : Option Value) (l3 : Option Value) (l4 : Option Value) (a0 : Nat) (x0 : Int32) (x1 : Int32) (h : am_H), am_E P 95 55 [l0, l1, l2, l3, l4] [.int x1, .int x0, .ref a0] h = if am_cls h a0 = some 9 then (am_E P 94 0 [some (.ref a0), some (.int x0), some (.int x1), none, none, none] [] h).bind (fun q => am_E P 95 58 [l0, l1, l2, l3, l4] (q.1.toList ++ []) q.2) else none) ∧
  (∀ (P : Nat × Nat) (l0 : Option Value) (l1 : Option Value) (l2 : Option Value) (l3 : Option Value) (l4 : Option Value) (x0 : Int32) (s : List Value) (h : am_H), am_E P 95 58 [l0, l1, l2, l3, l4] (.int x0 :: s) h = am_E P 95 60 [l0, l1, l2, l3, some (.int x0)] s h) ∧
  (∀ (P : Nat × Nat) (l0 : Option Value) (l1 : Option Value) (l2 : Option Value) (l3 : Option Value) (x0 : Int32) (s : List Value) (h : am_H), am_E P 95 60 [l0, l1, l2, l3, some (.int x0)] s h = am_E P 95 62 [l0, l1, l2, l3, some (.int x0)] (.int x0 :: s) h) ∧
  (∀ (P : Nat × Nat) (l0 : Option Value) (l1 : Option Value) (l2 : Option Value) (l3 : Option Value) (l4 : Option Value) (x0 : Int32) (s : List Value) (h : am_H), am_E P 95 62 [l0, l1, l2, l3, l4] (.int x0 :: s) h = if 0 ≤ x0 then am_E P 95 68 [l0, l1, l2, l3, l4] s h else am_E P 95 65 [l0, l1, l2, l3, l4] s h) ∧
  (∀ (P : Nat × Nat) (l0 : Option Value) (l1 : Option Value) (l2 : Option Value) (l3 : Option Value) (l4 : Option Value) (s : List Value) (h : am_H), am_E P 95 65 [l0, l1, l2, l3, l4] s h = am_E P 95 67 [l0, l1, l2, l3, l4] (.int (-5) :: s) h) ∧
  (∀ (P : Nat × Nat) (l0 : Option Value) (l1 : Option Value) (l2 : Option Value) (l3 : Option Value) (l4 : Option Value) (x0 : Int32) (h : am_H), am_E P 95 67 [l0, l1, l2, l3, l4] [.int x0] h = some (some (.int x0), h)) ∧
  (∀ (P : Nat × Nat) (l0 : Option Value) (l1 : Option Value) (l3 : Option Value) (l4 : Option Value) (x0 : Int32) (s : List Value) (h : am_H), am_E P 95 68 [l0, l1, some (.int x0), l3, l4] s h = am_E P 95 69 [l0, l1, some (.int x0), l3, l4] (.int x0 :: s) h) ∧
  (∀ (P : Nat × Nat) (l0 : Option Value) (l1 : Option Value) (l2 : Option Value) (l3 : Option Value) (x0 : Int32) (s : List Value) (h : am_H), am_E P 95 69 [l0, l1, l2, l3, some (.int x0)] s h = am_E P 95 71 [l0, l1, l2, l3, some (.int x0)] (.int x0 :: s) h) ∧
  (∀ (P : Nat × Nat) (l1 : Option Value) (l2 : Option Value) (l3 : Option Value) (l4 : Option Value) (a0 : Nat) (s : List Value) (h : am_H), am_E P 95 71 [some (.ref a0), l1, l2, l3, l4] s h = am_E P 95 72 [some (.ref a0), l1, l2, l3, l4] (.ref a0 :: s) h) ∧
  (∀ (P : Nat × Nat) (l1 : Option Value) (l2 : Option Value) (l3 : Option Value) (l4 : Option Value) (s : List Value) (h : am_H), am_E P 95 71 [some .null, l1, l2, l3, l4] s h = am_E P 95 72 [some .null, l1, l2, l3, l4] (.null :: s) h) ∧
  (∀ (P : Nat × Nat) (l0 : Option Value) (l1 : Option Value) (l2 : Option Value) (l3 : Option Value) (l4 : Option Value) (a0 : Nat) (s : List Value) (h : am_H), am_E P 95 72 [l0, l1, l2, l3, l4] (.ref a0 :: s) h = (am_g1 h a0 9 2).bind (fun v => am_E P 95 75 [l0, l1, l2, l3, l4] (v :: s) h)) ∧
  (∀ (P : Nat × Nat) (l0 : Option Value) (l1 : Option Value) (l2 : Option Value) (l4 : Option Value) (x0 : Int32) (s : List Value) (h : am_H), am_E P 95 75 [l0, l1, l2, some (.int x0), l4] s h = am_E P 95 76 [l0, l1, l2, some (.int x0), l4] (.int x0 :: s) h) ∧
  (∀ (P : Nat × Nat) (l0 : Option Value) (l1 : Option Value) (l2 : Option Value) (l3 : Option Value) (l4 : Option Value) (x0 : Int32) (a0 : Nat) (s : List Value) (h : am_H), am_E P 95 76 [l0, l1, l2, l3, l4] (.int x0 :: .ref a0 :: s) h = (am_iald h a0 x0).bind (fun v => am_E P 95 77 [l0, l1, l2, l3, l4] (.int v :: s) h)) ∧
  (∀ (P : Nat × Nat) (l0 : Option Value) (l1 : Option Value) (l2 : Option Value) (l3 : Option Value) (l4 : Option Value) (x0 : Int32) (x1 : Int32) (s : List Value) (h : am_H), am_E P 95 77 [l0, l1, l2, l3, l4] (.int x1 :: .int x0 :: s) h = am_E P 95 78 [l0, l1, l2, l3, l4] (.int (x0 + x1) :: s) h) ∧
  (∀ (P : Nat × Nat) (l0 : Option Value) (l1 : Option Value) (l2 : Option Value) (l3 : Option Value) (l4 : Option Value) (x0 : Int32) (x1 : Int32) (s : List Value) (h : am_H), am_E P 95 78 [l0, l1, l2, l3, l4] (.int x1 :: .int x0 :: s) h = am_E P 95 79 [l0, l1, l2, l3, l4] (.int (x0 + x1) :: s) h) ∧
  (∀ (P : Nat × Nat) (l0 : Option Value) (l1 : Option Value) (l2 : Option Value) (l3 : Option Value) (l4 : Option Value) (x0 : Int32) (s : List Value) (h : am_H), am_E P 95 79 [l0, l1, l2, l3, l4] (.int x0 :: s) h = am_E P 95 80 [l0, l1, some (.int x0), l3, l4] s h) ∧
  (∀ (P : Nat × Nat) (l1 : Option Value) (l2 : Option Value) (l3 : Option Value) (l4 : Option Value) (a0 : Nat) (s : List Value) (h : am_H), am_E P 95 80 [some (.ref a0), l1, l2, l3, l4] s h = am_E P 95 81 [some (.ref a0), l1, l2, l3, l4] (.ref a0 :: s) h) ∧
  (∀ (P : Nat × Nat) (l1 : Option Value) (l2 : Option Value) (l3 : Option Value) (l4 : Option Value) (s : List Value) (h : am_H), am_E P 95 80 [some .null, l1, l2, l3, l4] s h = am_E P 95 81 [some .null, l1, l2, l3, l4] (.null :: s) h) ∧
  (∀ (P : Nat × Nat) (l0 : Option Value) (l1 : Option Value) (l2 : Option Value) (l3 : Option Value) (l4 : Option Value) (a0 : Nat) (s : List Value) (h : am_H), am_E P 95 81 [l0, l1, l2, l3, l4] (.ref a0 :: s) h = (am_g1 h a0 9 2).bind (fun v => am_E P 95 84 [l0, l1, l2, l3, l4] (v :: s) h)) ∧
  (∀ (P : Nat × Nat) (l0 : Option Value) (l1 : Option Value) (l2 : Option Value) (l4 : Option Value) (x0 : Int32) (s : List Value) (h : am_H), am_E P 95 84 [l0, l1, l2, some (.int x0), l4] s h = am_E P 95 85 [l0, l1, l2, some (.int x0), l4] (.int x0 :: s) h) ∧
  (∀ (P : Nat × Nat) (l0 : Option Value) (l1 : Option Value) (l2 : Option Value) (l3 : Option Value) (l4 : Option Value) (s : List Value) (h : am_H), am_E P 95 85 [l0, l1, l2, l3, l4] s h = am_E P 95 86 [l0, l1, l2, l3, l4] (.int 0 :: s) h) ∧
  (∀ (P : Nat × Nat) (l0 : Option Value) (l1 : Option Value) (l2 : Option Value) (l3 : Option Value) (l4 : Option Value) (x0 : Int32) (x1 : Int32) (a0 : Nat) (s : List Value) (h : am_H), am_E P 95 86 [l0, l1, l2, l3, l4] (.int x1 :: .int x0 :: .ref a0 :: s) h = (am_iast h a0 x0 x1).bind (fun h => am_E P 95 87 [l0, l1, l2, l3, l4] s h)) ∧
  (∀ (P : Nat × Nat) (l0 : Option Value) (l1 : Option Value) (l2 : Option Value) (l4 : Option Value) (x0 : Int32) (s : List Value) (h : am_H), am_E P 95 87 [l0, l1, l2, some (.int x0), l4] s h = am_E P 95 90 [l0, l1, l2, some (.int (x0 + 1)), l4] s h) ∧
  (∀ (P : Nat × Nat) (l0 : Option Value) (l1 : Option Value) (l2 : Option Value) (l3 : Option Value) (l4 : Option Value) (s : List Value) (h : am_H), am_E P 95 90 [l0, l1, l2, l3, l4] s h = am_E P 95 44 [l0, l1, l2, l3, l4] s h) ∧
  (∀ (P : Nat × Nat) (l0 : Option Value) (l1 : Option Value) (l2 : Option Value) (l3 : Option Value) (l4 : Option Value) (a0 : Nat) (s : List Value) (h : am_H), am_E P 95 94 [l0, l1, l2, l3, l4] (.ref a0 :: s) h = (am_g1 h a0 9 27).bind (fun v => am_E P 95 97 [l0, l1, l2, l3, l4] (v :: s) h)) ∧
  (∀ (P : Nat × Nat) (l0 : Option Value) (l1 : Option Value) (l2 : Option Value) (l3 : Option Value) (l4 : Option Value) (x0 : Int32) (s : List Value) (h : am_H), am_E P 95 97 [l0, l1, l2, l3, l4] (.int x0 :: s) h = if x0 ≤ 0 then am_E P 95 128 [l0, l1, l2, l3, l4] s h else am_E P 95 100 [l0, l1, l2, l3, l4] s h) ∧
  (∀ (P : Nat × Nat) (l1 : Option Value) (l2 : Option Value) (l3 : Option Value) (l4 : Option Value) (a0 : Nat) (s : List Value) (h : am_H), am_E P 95 100 [some (.ref a0), l1, l2, l3, l4] s h = am_E P 95 101 [some (.ref a0), l1, l2, l3, l4] (.ref a0 :: s) h) ∧
  (∀ (P : Nat × Nat) (l1 : Option Value) (l2 : Option Value) (l3 : Option Value) (l4 : Option Value) (s : List Value) (h : am_H), am_E P 95 100 [some .null, l1, l2, l3, l4] s h = am_E P 95 101 [some .null, l1, l2, l3, l4] (.null :: s) h) ∧
  (∀ (P : Nat × Nat) (l0 : Option Value) (l1 : Option Value) (l2 : Option Value) (l3 : Option Value) (l4 : Option Value) (a0 : Nat) (s : List Value) (h : am_H), am_E P 95 101 [l0, l1, l2, l3, l4] (.ref a0 :: s) h = (am_g1 h a0 9 26).bind (fun v => am_E P 95 104 [l0, l1, l2, l3, l4] (v :: s) h)) ∧
  (∀ (P : Nat × Nat) (l1 : Option Value) (l2 : Option Value) (l3 : Option Value) (l4 : Option Value) (a0 : Nat) (s : List Value) (h : am_H), am_E P 95 104 [some (.ref a0), l1, l2, l3, l4] s h = am_E P 95 105 [some (.ref a0), l1, l2, l3, l4] (.ref a0 :: s) h) ∧
  (∀ (P : Nat × Nat) (l1 : Option Value) (l2 : Option Value) (l3 : Option Value) (l4 : Option Value) (s : List Value) (h : am_H), am_E P 95 104 [some .null, l1, l2, l3, l4] s h = am_E P 95 105 [some .null, l1, l2, l3, l4] (.null :: s) h) ∧
  (∀ (P : Nat × Nat) (l0 : Option Value) (l1 : Option Value) (l2 : Option Value) (l3 : Option Value) (l4 : Option Value) (a0 : Nat) (s : List Value) (h : am_H), am_E P 95 105 [l0, l1, l2, l3, l4] (.ref a0 :: s) h = (am_g1 h a0 9 27).bind (fun v => am_E P 95 108 [l0, l1, l2, l3, l4] (v :: s) h)) ∧
  (∀ (P : Nat × Nat) (l0 : Option Value) (l1 : Option Value) (l2 : Option Value) (l3 : Option Value) (l4 : Option Value) (s : List Value) (h : am_H), am_E P 95 108 [l0, l1, l2, l3, l4] s h = am_E P 95 109 [l0, l1, l2, l3, l4] (.int 1 :: s) h) ∧
  (∀ (P : Nat × Nat) (l0 : Option Value) (l1 : Option Value) (l2 : Option Value) (l3 : Option Value) (l4 : Option Value) (x0 : Int32) (x1 : Int32) (s : List Value) (h : am_H), am_E P 95 109 [l0, l1, l2, l3, l4] (.int x1 :: .int x0 :: s) h = am_E P 95 110 [l0, l1, l2, l3, l4] (.int (x0 - x1) :: s) h) ∧
  (∀ (P : Nat × Nat) (l0 : Option Value) (l1 : Option Value) (l2 : Option Value) (l3 : Option Value) (l4 : Option Value) (x0 : Int32) (a0 : Nat) (s : List Value) (h : am_H), am_E P 95 110 [l0, l1, l2, l3, l4] (.int x0 :: .ref a0 :: s) h = (am_iald h a0 x0).bind (fun v => am_E P 95 111 [l0, l1, l2, l3, l4] (.int v :: s) h)) ∧
  (∀ (P : Nat × Nat) (l0 : Option Value) (l2 : Option Value) (l3 : Option Value) (l4 : Option Value) (x0 : Int32) (s : List Value) (h : am_H), am_E P 95 111 [l0, some (.int x0), l2, l3, l4] s h = am_E P 95 112 [l0, some (.int x0), l2, l3, l4] (.int x0 :: s) h) ∧
  (∀ (P : Nat × Nat) (l0 : Option Value) (l1 : Option Value) (l2 : Option Value) (l3 : Option Value) (l4 : Option Value) (x0 : Int32) (x1 : Int32) (s : List Value) (h : am_H), am_E P 95 112 [l0, l1, l2, l3, l4] (.int x1 :: .int x0 :: s) h = if x0 < x1 then am_E P 95 128 [l0, l1, l2, l3, l4] s h else am_E P 95 115 [l0, l1, l2, l3, l4] s h) ∧
  (∀ (P : Nat × Nat) (l1 : Option Value) (l2 : Option Value) (l3 : Option Value) (l4 : Option Value) (a0 : Nat) (s : List Value) (h : am_H), am_E P 95 115 [some (.ref a0), l1, l2, l3, l4] s h = am_E P 95 116 [some (.ref a0), l1, l2, l3, l4] (.ref a0 :: s) h) ∧
  (∀ (P : Nat × Nat) (l1 : Option Value) (l2 : Option Value) (l3 : Option Value) (l4 : Option Value) (s : List Value) (h : am_H), am_E P 95 115 [some .null, l1, l2, l3, l4] s h = am_E P 95 116 [some .null, l1, l2, l3, l4] (.null :: s) h) ∧
  (∀ (P : Nat × Nat) (l0 : Option Value) (l1 : Option Value) (l2 : Option Value) (l3 : Option Value) (l4 : Option Value) (a0 : Nat) (s : List Value) (h : am_H), am_E P 95 116 [l0, l1, l2, l3, l4] (.ref a0 :: s) h = am_E P 95 117 [l0, l1, l2, l3, l4] (.ref a0 :: .ref a0 :: s) h) ∧
  (∀ (P : Nat × Nat) (l0 : Option Value) (l1 : Option Value) (l2 : Option Value) (l3 : Option Value) (l4 : Option Value) (a0 : Nat) (s : List Value) (h : am_H), am_E P 95 117 [l0, l1, l2, l3, l4] (.ref a0 :: s) h = (am_g1 h a0 9 27).bind (fun v => am_E P 95 120 [l0, l1, l2, l3, l4] (v :: s) h)) ∧
  (∀ (P : Nat × Nat) (l0 : Option Value) (l1 : Option Value) (l2 : Option Value) (l3 : Option Value) (l4 : Option Value) (s : List Value) (h : am_H), am_E P 95 120 [l0, l1, l2, l3, l4] s h = am_E P 95 121 [l0, l1, l2, l3, l4] (.int 1 :: s) h) ∧
  (∀ (P : Nat × Nat) (l0 : Option Value) (l1 : Option Value) (l2 : Option Value) (l3 : Option Value) (l4 : Option Value) (x0 : Int32) (x1 : Int32) (s : List Value) (h : am_H), am_E P 95 121 [l0, l1, l2, l3, l4] (.int x1 :: .int x0 :: s) h = am_E P 95 122 [l0, l1, l2, l3, l4] (.int (x0 - x1) :: s) h) ∧
  (∀ (P : Nat × Nat) (l0 : Option Value) (l1 : Option Value) (l2 : Option Value) (l3 : Option Value) (l4 : Option Value) (a0 : Nat) (x0 : Int32) (s : List Value) (h : am_H), am_E P 95 122 [l0, l1, l2, l3, l4] (.int x0 :: .ref a0 :: s) h = (am_p1 h a0 9 27 (.int x0)).bind (fun h => am_E P 95 125 [l0, l1, l2, l3, l4] s h)) ∧
  (∀ (P : Nat × Nat) (l0 : Option Value) (l1 : Option Value) (l2 : Option Value) (l3 : Option Value) (l4 : Option Value) (s : List Value) (h : am_H), am_E P 95 125 [l0, l1, l2, l3, l4] s h = am_E P 95 93 [l0, l1, l2, l3, l4] s h) ∧
  (∀ (P : Nat × Nat) (l0 : Option Value) (l1 : Option Value) (l3 : Option Value) (l4 : Option Value) (x0 : Int32) (s : List Value) (h : am_H), am_E P 95 128 [l0, l1, some (.int x0), l3, l4] s h = am_E P 95 129 [l0, l1, some (.int x0), l3, l4] (.int x0 :: s) h) ∧
  (∀ (P : Nat × Nat) (l0 : Option Value) (l1 : Option Value) (l2 : Option Value) (l3 : Option Value) (l4 : Option Value) (x0 : Int32) (h : am_H), am_E P 95 129 [l0, l1, l2, l3, l4] [.int x0] h = some (some (.int x0), h)) :=
  ⟨fun _ _ _ _ _ _ _ _ => er_go rfl rfl,
  fun _ _ _ _ _ _ _ _ => er_go rfl rfl,
  fun _ _ _ _ _ _ _ _ => er_go rfl rfl,
  fun _ _ _ _ _ _ _ _ _ _ => er_callS rfl rfl rfl,
  fun _ _ _ _ _ _ _ _ _ => er_if_ne rfl,
  fun _ _ _ _ _ _ _ _ => er_go rfl rfl,
  fun _ _ _ _ _ _ _ => er_go rfl rfl,
  fun _ _ _ _ _ _ _ _ _ => er_get1 rfl,
  fun _ _ _ _ _ _ _ _ => er_go rfl rfl,
  fun _ _ _ _ _ _ _ _ _ _ => er_ic_eq rfl,
  fun _ _ _ _ _ _ _ _ => er_go rfl rfl,
  fun _ _ _ _ _ _ _ _ => er_go rfl rfl,
  fun _ _ _ _ _ _ _ => er_go rfl rfl,
  fun _ _ _ _ _ _ _ _ _ => er_get1 rfl,
  fun _ _ _ _ _ _ _ _ _ _ => er_ic_gt rfl,
  fun _ _ _ _ _ _ _ _ => er_go rfl rfl,
  fun _ _ _ _ _ _ _ _ => er_ret rfl rfl,
  fun _ _ _ _ _ _ _ _ => er_go rfl rfl,
  fun _ _ _ _ _ _ _ => er_go rfl rfl,
  fun _ _ _ _ _ _ _ _ _ => er_get1 rfl,
  fun _ _ _ _ _ _ _ _ _ => er_if_eq rfl,
  fun _ _ _ _ _ _ _ _ => er_go rfl rfl,
  fun _ _ _ _ _ _ _ _ => er_ret rfl rfl,
  fun _ _ _ _ _ _ _ _ => er_go rfl rfl,
  fun _ _ _ _ _ _ _ _ _ => er_go rfl rfl,
  fun _ _ _ _ _ _ _ _ => er_go rfl rfl,
  fun _ _ _ _ _ _ _ _ _ => er_go rfl rfl,
  fun _ _ _ _ _ _ _ _ => er_go rfl rfl,
  fun _ _ _ _ _ _ _ => er_go rfl rfl,
  fun _ _ _ _ _ _ _ _ _ => er_get1 rfl,
  fun _ _ _ _ _ _ _ _ _ _ => er_ic_ge rfl,
  fun _ _ _ _ _ _ _ _ => er_go rfl rfl,
  fun _ _ _ _ _ _ _ => er_go rfl rfl,
  fun _ _ _ _ _ _ _ _ => er_go rfl rfl,
  fun _ _ _ _ _ _ _ _ => er_go rfl rfl,
  fun _ _ _ _ _ _ _ _ _ _ => er_callV rfl rfl rfl rfl,
  fun _ _ _ _ _ _ _ _ _ => er_go rfl rfl,
  fun _ _ _ _ _ _ _ _ => er_go rfl rfl,
  fun _ _ _ _ _ _ _ _ _ => er_if_ge rfl,
  fun _ _ _ _ _ _ _ _ => er_go rfl rfl,
  fun _ _ _ _ _ _ _ _ => er_ret rfl rfl,
  fun _ _ _ _ _ _ _ _ => er_go rfl rfl,
  fun _ _ _ _ _ _ _ _ => er_go rfl rfl,
  fun _ _ _ _ _ _ _ _ => er_go rfl rfl,
  fun _ _ _ _ _ _ _ => er_go rfl rfl,
  fun _ _ _ _ _ _ _ _ _ => er_get1 rfl,
  fun _ _ _ _ _ _ _ _ => er_go rfl rfl,
  fun _ _ _ _ _ _ _ _ _ _ => er_iald rfl,
  fun _ _ _ _ _ _ _ _ _ _ => er_go rfl rfl,
  fun _ _ _ _ _ _ _ _ _ _ => er_go rfl rfl,
  fun _ _ _ _ _ _ _ _ _ => er_go rfl rfl,
  fun _ _ _ _ _ _ _ _ => er_go rfl rfl,
  fun _ _ _ _ _ _ _ => er_go rfl rfl,
  fun _ _ _ _ _ _ _ _ _ => er_get1 rfl,
  fun _ _ _ _ _ _ _ _ => er_go rfl rfl,
  fun _ _ _ _ _ _ _ _ => er_go rfl rfl,
  fun _ _ _ _ _ _ _ _ _ _ _ => er_iast rfl,
  fun _ _ _ _ _ _ _ _ => er_go rfl rfl,
  fun _ _ _ _ _ _ _ _ => er_go rfl rfl,
  fun _ _ _ _ _ _ _ _ _ => er_get1 rfl,
  fun _ _ _ _ _ _ _ _ _ => er_if_le rfl,
  fun _ _ _ _ _ _ _ _ => er_go rfl rfl,
  fun _ _ _ _ _ _ _ => er_go rfl rfl,
  fun _ _ _ _ _ _ _ _ _ => er_get1 rfl,
  fun _ _ _ _ _ _ _ _ => er_go rfl rfl,
  fun _ _ _ _ _ _ _ => er_go rfl rfl,
  fun _ _ _ _ _ _ _ _ _ => er_get1 rfl,
  fun _ _ _ _ _ _ _ _ => er_go rfl rfl,
  fun _ _ _ _ _ _ _ _ _ _ => er_go rfl rfl,
  fun _ _ _ _ _ _ _ _ _ _ => er_iald rfl,
  fun _ _ _ _ _ _ _ _ => er_go rfl rfl,
  fun _ _ _ _ _ _ _ _ _ _ => er_ic_lt rfl,
  fun _ _ _ _ _ _ _ _ => er_go rfl rfl,
  fun _ _ _ _ _ _ _ => er_go rfl rfl,
  fun _ _ _ _ _ _ _ _ _ => er_go rfl rfl,
  fun _ _ _ _ _ _ _ _ _ => er_get1 rfl,
  fun _ _ _ _ _ _ _ _ => er_go rfl rfl,
  fun _ _ _ _ _ _ _ _ _ _ => er_go rfl rfl,
  fun _ _ _ _ _ _ _ _ _ _ => er_put1 rfl rfl,
  fun _ _ _ _ _ _ _ _ => er_go rfl rfl,
  fun _ _ _ _ _ _ _ _ => er_go rfl rfl,
  fun _ _ _ _ _ _ _ _ => er_ret rfl rfl⟩
set_option maxRecDepth 100000 in
theorem hd95_44 : ∀ (P : Nat × Nat) (l0 : Option Value) (l1 : Option Value) (l2 : Option Value) (l4 : Option Value) (x0 : Int32) (s : List Value) (h : am_H), am_E P 95 44 [l0, l1, l2, some (.int x0), l4] s h = am_E P 95 45 [l0, l1, l2, some (.int x0), l4] (.int x0 :: s) h := fun _ _ _ _ _ _ _ _ => er_go rfl rfl
set_option maxRecDepth 100000 in
theorem hd95_93 : ∀ (P : Nat × Nat) (l1 : Option Value) (l2 : Option Value) (l3 : Option Value) (l4 : Option Value) (a0 : Nat) (s : List Value) (h : am_H), am_E P 95 93 [some (.ref a0), l1, l2, l3, l4] s h = am_E P 95 94 [some (.ref a0), l1, l2, l3, l4] (.ref a0 :: s) h := fun _ _ _ _ _ _ _ _ => er_go rfl rfl
set_option maxRecDepth 100000 in
theorem hd95_93n : ∀ (P : Nat × Nat) (l1 : Option Value) (l2 : Option Value) (l3 : Option Value) (l4 : Option Value) (s : List Value) (h : am_H), am_E P 95 93 [some .null, l1, l2, l3, l4] s h = am_E P 95 94 [some .null, l1, l2, l3, l4] (.null :: s) h := fun _ _ _ _ _ _ _ => er_go rfl rfl
set_option maxRecDepth 100000 in
/-- TwoStepOutputsModel.end(I)I -/
theorem r96 : (∀ (P : Nat × Nat) (l1 : Option Value) (l2 : Option Value) (a0 : Nat) (s : List Value) (h : am_H), am_E P 96 0 [some (.ref a0), l1, l2] s h = am_E P 96 1 [some (.ref a0), l1, l2] (.ref a0 :: s) h) ∧
  (∀ (P : Nat × Nat) (l1 : Option Value) (l2 : Option Value) (s : List Value) (h : am_H), am_E P 96 0 [some .null, l1, l2] s h = am_E P 96 1 [some .null, l1, l2] (.null :: s) h) ∧
  (∀ (P : Nat × Nat) (l0 : Option Value) (l2 : Option Value) (x0 : Int32) (s : List Value) (h : am_H), am_E P 96 1 [l0, some (.int x0), l2] s h = am_E P 96 2 [l0, some (.int x0), l2] (.int x0 :: s) h) ∧
  (∀ (P : Nat × Nat) (l0 : Option Value) (l1 : Option Value) (l2 : Option Value) (a0 : Nat) (x0 : Int32) (h : am_H), am_E P 96 2 [l0, l1, l2] [.int x0, .ref a0] h = if am_cls h a0 = some 9 then (am_E P 85 0 [some (.ref a0), some (.int x0), none, none, none] [] h).bind (fun q => am_E P 96 5 [l0, l1, l2] (q.1.toList ++ []) q.2) else none) ∧
  (∀ (P : Nat × Nat) (l0 : Option Value) (l1 : Option Value) (l2 : Option Value) (x0 : Int32) (s : List Value) (h : am_H), am_E P 96 5 [l0, l1, l2] (.int x0 :: s) h = am_E P 96 6 [l0, l1, some (.int x0)] s h) ∧
  (∀ (P : Nat × Nat) (l0 : Option Value) (l1 : Option Value) (x0 : Int32) (s : List Value) (h : am_H), am_E P 96 6 [l0, l1, some (.int x0)] s h = am_E P 96 7 [l0, l1, some (.int x0)] (.int x0 :: s) h) ∧
  (∀ (P : Nat × Nat) (l0 : Option Value) (l1 : Option Value) (l2 : Option Value) (x0 : Int32) (s : List Value) (h : am_H), am_E P 96 7 [l0, l1, l2] (.int x0 :: s) h = if x0 = 0 then am_E P 96 12 [l0, l1, l2] s h else am_E P 96 10 [l0, l1, l2] s h) ∧
  (∀ (P : Nat × Nat) (l0 : Option Value) (l1 : Option Value) (x0 : Int32) (s : List Value) (h : am_H), am_E P 96 10 [l0, l1, some (.int x0)] s h = am_E P 96 11 [l0, l1, some (.int x0)] (.int x0 :: s) h) ∧
  (∀ (P : Nat × Nat) (l0 : Option Value) (l1 : Option Value) (l2 : Option Value) (x0 : Int32) (h : am_H), am_E P 96 11 [l0, l1, l2] [.int x0] h = some (some (.int x0), h)) ∧
  (∀ (P : Nat × Nat) (l1 : Option Value) (l2 : Option Value) (a0 : Nat) (s : List Value) (h : am_H), am_E P 96 12 [some (.ref a0), l1, l2] s h = am_E P 96 13 [some (.ref a0), l1, l2] (.ref a0 :: s) h) ∧
  (∀ (P : Nat × Nat) (l1 : Option Value) (l2 : Option Value) (s : List Value) (h : am_H), am_E P 96 12 [some .null, l1, l2] s h = am_E P 96 13 [some .null, l1, l2] (.null :: s) h) ∧
  (∀ (P : Nat × Nat) (l0 : Option Value) (l2 : Option Value) (x0 : Int32) (s : List Value) (h : am_H), am_E P 96 13 [l0, some (.int x0), l2] s h = am_E P 96 14 [l0, some (.int x0), l2] (.int x0 :: s) h) ∧
  (∀ (P : Nat × Nat) (l0 : Option Value) (l1 : Option Value) (l2 : Option Value) (a0 : Nat) (x0 : Int32) (h : am_H), am_E P 96 14 [l0, l1, l2] [.int x0, .ref a0] h = if am_cls h a0 = some 9 then (am_E P 86 0 [some (.ref a0), some (.int x0), none, none, none, none, none] [] h).bind (fun q => am_E P 96 17 [l0, l1, l2] (q.1.toList ++ []) q.2) else none) ∧
  (∀ (P : Nat × Nat) (l0 : Option Value) (l1 : Option Value) (l2 : Option Value) (x0 : Int32) (s : List Value) (h : am_H), am_E P 96 17 [l0, l1, l2] (.int x0 :: s) h = if x0 < 0 then am_E P 96 35 [l0, l1, l2] s h else am_E P 96 20 [l0, l1, l2] s h) ∧
  (∀ (P : Nat × Nat) (l1 : Option Value) (l2 : Option Value) (a0 : Nat) (s : List Value) (h : am_H), am_E P 96 20 [some (.ref a0), l1, l2] s h = am_E P 96 21 [some (.ref a0), l1, l2] (.ref a0 :: s) h) ∧
  (∀ (P : Nat × Nat) (l1 : Option Value) (l2 : Option Value) (s : List Value) (h : am_H), am_E P 96 20 [some .null, l1, l2] s h = am_E P 96 21 [some .null, l1, l2] (.null :: s) h) ∧
  (∀ (P : Nat × Nat) (l0 : Option Value) (l1 : Option Value) (l2 : Option Value) (s : List Value) (h : am_H), am_E P 96 21 [l0, l1, l2] s h = am_E P 96 22 [l0, l1, l2] (.int 5 :: s) h) ∧
  (∀ (P : Nat × Nat) (l0 : Option Value) (l1 : Option Value) (l2 : Option Value) (s : List Value) (h : am_H), am_E P 96 22 [l0, l1, l2] s h = am_E P 96 24 [l0, l1, l2] (.int (-6) :: s) h) ∧
  (∀ (P : Nat × Nat) (l0 : Option Value) (l1 : Option Value) (l2 : Option Value) (s : List Value) (h : am_H), am_E P 96 24 [l0, l1, l2] s h = am_E P 96 26 [l0, l1, l2] (.int (-6) :: s) h) ∧
  (∀ (P : Nat × Nat) (l0 : Option Value) (l2 : Option Value) (x0 : Int32) (s : List Value) (h : am_H), am_E P 96 26 [l0, some (.int x0), l2] s h = am_E P 96 27 [l0, some (.int x0), l2] (.int x0 :: s) h) ∧
  (∀ (P : Nat × Nat) (l0 : Option Value) (l1 : Option Value) (l2 : Option Value) (s : List Value) (h : am_H), am_E P 96 27 [l0, l1, l2] s h = am_E P 96 29 [l0, l1, l2] (.int (-6) :: s) h) ∧
  (∀ (P : Nat × Nat) (l0 : Option Value) (l1 : Option Value) (l2 : Option Value) (a0 : Nat) (x0 : Int32) (x1 : Int32) (x2 : Int32) (x3 : Int32) (x4 : Int32) (h : am_H), am_E P 96 29 [l0, l1, l2] [.int x4, .int x3, .int x2, .int x1, .int x0, .ref a0] h = if am_cls h a0 = some 9 then (am_E P 78 0 [some (.ref a0), some (.int x0), some (.int x1), some (.int x2), some (.int x3), some (.int x4)] [] h).bind (fun q => am_E P 96 32 [l0, l1, l2] (q.1.toList ++ []) q.2) else none) ∧
  (∀ (P : Nat × Nat) (l0 : Option Value) (l1 : Option Value) (l2 : Option Value) (x0 : Int32) (s : List Value) (h : am_H), am_E P 96 32 [l0, l1, l2] (.int x0 :: s) h = if x0 = 0 then am_E P 96 35 [l0, l1, l2] s h else am_E P 96 38 [l0, l1, l2] s h) ∧
  (∀ (P : Nat × Nat) (l0 : Option Value) (l1 : Option Value) (l2 : Option Value) (s : List Value) (h : am_H), am_E P 96 35 [l0, l1, l2] s h = am_E P 96 37 [l0, l1, l2] (.int (-5) :: s) h) ∧
  (∀ (P : Nat × Nat) (l0 : Option Value) (l1 : Option Value) (l2 : Option Value) (x0 : Int32) (h : am_H), am_E P 96 37 [l0, l1, l2] [.int x0] h = some (some (.int x0), h)) ∧
  (∀ (P : Nat × Nat) (l1 : Option Value) (l2 : Option Value) (a0 : Nat) (s : List Value) (h : am_H), am_E P 96 38 [some (.ref a0), l1, l2] s h = am_E P 96 39 [some (.ref a0), l1, l2] (.ref a0 :: s) h) ∧
  (∀ (P : Nat × Nat) (l1 : Option Value) (l2 : Option Value) (s : List Value) (h : am_H), am_E P 96 38 [some .null, l1, l2] s h = am_E P 96 39 [some .null, l1, l2] (.null :: s) h) ∧
  (∀ (P : Nat × Nat) (l0 : Option Value) (l2 : Option Value) (x0 : Int32) (s : List Value) (h : am_H), am_E P 96 39 [l0, some (.int x0), l2] s h = am_E P 96 40 [l0, some (.int x0), l2] (.int x0 :: s) h) ∧
  (∀ (P : Nat × Nat) (l0 : Option Value) (l1 : Option Value) (l2 : Option Value) (a0 : Nat) (x0 : Int32) (s : List Value) (h : am_H), am_E P 96 40 [l0, l1, l2] (.int x0 :: .ref a0 :: s) h = (am_p1 h a0 9 25 (.int x0)).bind (fun h => am_E P 96 43 [l0, l1, l2] s h)) ∧
  (∀ (P : Nat × Nat) (l1 : Option Value) (l2 : Option Value) (a0 : Nat) (s : List Value) (h : am_H), am_E P 96 43 [some (.ref a0), l1, l2] s h = am_E P 96 44 [some (.ref a0), l1, l2] (.ref a0 :: s) h) ∧
  (∀ (P : Nat × Nat) (l1 : Option Value) (l2 : Option Value) (s : List Value) (h : am_H), am_E P 96 43 [some .null, l1, l2] s h = am_E P 96 44 [some .null, l1, l2] (.null :: s) h) ∧
  (∀ (P : Nat × Nat) (l0 : Option Value) (l1 : Option Value) (l2 : Option Value) (s : List Value) (h : am_H), am_E P 96 44 [l0, l1, l2] s h = am_E P 96 45 [l0, l1, l2] (.int 1 :: s) h) ∧
  (∀ (P : Nat × Nat) (l0 : Option Value) (l1 : Option Value) (l2 : Option Value) (a0 : Nat) (x0 : Int32) (s : List Value) (h : am_H), am_E P 96 45 [l0, l1, l2] (.int x0 :: .ref a0 :: s) h = if x0 = 0 ∨ x0 = 1 then (am_p1 h a0 9 29 (.int x0)).bind (fun h => am_E P 96 48 [l0, l1, l2] s h) else none) ∧
  (∀ (P : Nat × Nat) (l1 : Option Value) (l2 : Option Value) (a0 : Nat) (s : List Value) (h : am_H), am_E P 96 48 [some (.ref a0), l1, l2] s h = am_E P 96 49 [some (.ref a0), l1, l2] (.ref a0 :: s) h) ∧
  (∀ (P : Nat × Nat) (l1 : Option Value) (l2 : Option Value) (s : List Value) (h : am_H), am_E P 96 48 [some .null, l1, l2] s h = am_E P 96 49 [some .null, l1, l2] (.null :: s) h) ∧
  (∀ (P : Nat × Nat) (l0 : Option Value) (l1 : Option Value) (l2 : Option Value) (a0 : Nat) (h : am_H), am_E P 96 49 [l0, l1, l2] [.ref a0] h = if am_cls h a0 = some 9 then (am_E P 90 0 [some (.ref a0), none, none, none, none, none] [] h).bind (fun q => am_E P 96 52 [l0, l1, l2] (q.1.toList ++ []) q.2) else none) ∧
  (∀ (P : Nat × Nat) (l0 : Option Value) (l1 : Option Value) (l2 : Option Value) (x0 : Int32) (h : am_H), am_E P 96 52 [l0, l1, l2] [.int x0] h = some (some (.int x0), h)) :=
  ⟨fun _ _ _ _ _ _ => er_go rfl rfl,
  fun _ _ _ _ _ => er_go rfl rfl,
  fun _ _ _ _ _ _ => er_go rfl rfl,
  fun _ _ _ _ _ _ _ => er_callV rfl rfl rfl rfl,
  fun _ _ _ _ _ _ _ => er_go rfl rfl,
  fun _ _ _ _ _ _ => er_go rfl rfl,
  fun _ _ _ _ _ _ _ => er_if_eq rfl,
  fun _ _ _ _ _ _ => er_go rfl rfl,
  fun _ _ _ _ _ _ => er_ret rfl rfl,
  fun _ _ _ _ _ _ => er_go rfl rfl,
  fun _ _ _ _ _ => er_go rfl rfl,
  fun _ _ _ _ _ _ => er_go rfl rfl,
  fun _ _ _ _ _ _ _ => er_callV rfl rfl rfl rfl,
  fun _ _ _ _ _ _ _ => er_if_lt rfl,
  fun _ _ _ _ _ _ => er_go rfl rfl,
  fun _ _ _ _ _ => er_go rfl rfl,
  fun _ _ _ _ _ _ => er_go rfl rfl,
  fun _ _ _ _ _ _ => er_go rfl rfl,
  fun _ _ _ _ _ _ => er_go rfl rfl,
  fun _ _ _ _ _ _ => er_go rfl rfl,
  fun _ _ _ _ _ _ => er_go rfl rfl,
  fun _ _ _ _ _ _ _ _ _ _ _ => er_callV rfl rfl rfl rfl,
  fun _ _ _ _ _ _ _ => er_if_ne rfl,
  fun _ _ _ _ _ _ => er_go rfl rfl,
  fun _ _ _ _ _ _ => er_ret rfl rfl,
  fun _ _ _ _ _ _ => er_go rfl rfl,
  fun _ _ _ _ _ => er_go rfl rfl,
  fun _ _ _ _ _ _ => er_go rfl rfl,
  fun _ _ _ _ _ _ _ _ => er_put1 rfl rfl,
  fun _ _ _ _ _ _ => er_go rfl rfl,
  fun _ _ _ _ _ => er_go rfl rfl,
  fun _ _ _ _ _ _ => er_go rfl rfl,
  fun _ _ _ _ _ _ _ _ => er_putZ rfl rfl,
  fun _ _ _ _ _ _ => er_go rfl rfl,
  fun _ _ _ _ _ => er_go rfl rfl,
  fun _ _ _ _ _ _ => er_callV rfl rfl rfl rfl,
  fun _ _ _ _ _ _ => er_ret rfl rfl⟩
set_option maxRecDepth 100000 in
/-- TwoStepOutputsModel.fails(II)I -/
theorem r97 : (∀ (P : Nat × Nat) (l1 : Option Value) (l2 : Option Value) (l3 : Option Value) (a0 : Nat) (s : List Value) (h : am_H), am_E P 97 0 [some (.ref a0), l1, l2, l3] s h = am_E P 97 1 [some (.ref a0), l1, l2, l3] (.ref a0 :: s) h) ∧
  (∀ (P : Nat × Nat) (l1 : Option Value) (l2 : Option Value) (l3 : Option Value) (s : List Value) (h : am_H), am_E P 97 0 [some .null, l1, l2, l3] s h = am_E P 97 1 [some .null, l1, l2, l3] (.null :: s) h) ∧
  (∀ (P : Nat × Nat) (l0 : Option Value) (l2 : Option Value) (l3 : Option Value) (x0 : Int32) (s : List Value) (h : am_H), am_E P 97 1 [l0, some (.int x0), l2, l3] s h = am_E P 97 2 [l0, some (.int x0), l2, l3] (.int x0 :: s) h) ∧
  (∀ (P : Nat × Nat) (l0 : Option Value) (l1 : Option Value) (l2 : Option Value) (l3 : Option Value) (a0 : Nat) (x0 : Int32) (h : am_H), am_E P 97 2 [l0, l1, l2, l3] [.int x0, .ref a0] h = if am_cls h a0 = some 9 then (am_E P 75 0 [some (.ref a0), some (.int x0)] [] h).bind (fun q => am_E P 97 5 [l0, l1, l2, l3] (q.1.toList ++ []) q.2) else none) ∧
  (∀ (P : Nat × Nat) (l0 : Option Value) (l1 : Option Value) (l2 : Option Value) (l3 : Option Value) (x0 : Int32) (s : List Value) (h : am_H), am_E P 97 5 [l0, l1, l2, l3] (.int x0 :: s) h = if x0 = 0 then am_E P 97 10 [l0, l1, l2, l3] s h else am_E P 97 8 [l0, l1, l2, l3] s h) ∧
  (∀ (P : Nat × Nat) (l0 : Option Value) (l1 : Option Value) (l2 : Option Value) (l3 : Option Value) (s : List Value) (h : am_H), am_E P 97 8 [l0, l1, l2, l3] s h = am_E P 97 9 [l0, l1, l2, l3] (.int (-1) :: s) h) ∧
  (∀ (P : Nat × Nat) (l0 : Option Value) (l1 : Option Value) (l2 : Option Value) (l3 : Option Value) (x0 : Int32) (h : am_H), am_E P 97 9 [l0, l1, l2, l3] [.int x0] h = some (some (.int x0), h)) ∧
  (∀ (P : Nat × Nat) (l0 : Option Value) (l1 : Option Value) (l3 : Option Value) (x0 : Int32) (s : List Value) (h : am_H), am_E P 97 10 [l0, l1, some (.int x0), l3] s h = am_E P 97 11 [l0, l1, some (.int x0), l3] (.int x0 :: s) h) ∧
  (∀ (P : Nat × Nat) (l0 : Option Value) (l1 : Option Value) (l2 : Option Value) (l3 : Option Value) (s : List Value) (h : am_H), am_E P 97 11 [l0, l1, l2, l3] s h = am_E P 97 12 [l0, l1, l2, l3] (.int 0 :: s) h) ∧
  (∀ (P : Nat × Nat) (l0 : Option Value) (l1 : Option Value) (l2 : Option Value) (l3 : Option Value) (s : List Value) (h : am_H), am_E P 97 12 [l0, l1, l2, l3] s h = am_E P 97 14 [l0, l1, l2, l3] (.int 100 :: s) h) ∧
  (∀ (P : Nat × Nat) (l0 : Option Value) (l1 : Option Value) (l2 : Option Value) (l3 : Option Value) (x0 : Int32) (x1 : Int32) (x2 : Int32) (h : am_H), am_E P 97 14 [l0, l1, l2, l3] [.int x2, .int x1, .int x0] h = (am_E P 74 0 [some (.int x0), some (.int x1), some (.int x2)] [] h).bind (fun q => am_E P 97 17 [l0, l1, l2, l3] (q.1.toList ++ []) q.2)) ∧
  (∀ (P : Nat × Nat) (l0 : Option Value) (l1 : Option Value) (l2 : Option Value) (l3 : Option Value) (x0 : Int32) (s : List Value) (h : am_H), am_E P 97 17 [l0, l1, l2, l3] (.int x0 :: s) h = if x0 = 0 then am_E P 97 23 [l0, l1, l2, l3] s h else am_E P 97 20 [l0, l1, l2, l3] s h) ∧
  (∀ (P : Nat × Nat) (l0 : Option Value) (l1 : Option Value) (l2 : Option Value) (l3 : Option Value) (s : List Value) (h : am_H), am_E P 97 20 [l0, l1, l2, l3] s h = am_E P 97 22 [l0, l1, l2, l3] (.int (-2) :: s) h) ∧
  (∀ (P : Nat × Nat) (l0 : Option Value) (l1 : Option Value) (l2 : Option Value) (l3 : Option Value) (x0 : Int32) (h : am_H), am_E P 97 22 [l0, l1, l2, l3] [.int x0] h = some (some (.int x0), h)) ∧
  (∀ (P : Nat × Nat) (l1 : Option Value) (l2 : Option Value) (l3 : Option Value) (a0 : Nat) (s : List Value) (h : am_H), am_E P 97 23 [some (.ref a0), l1, l2, l3] s h = am_E P 97 24 [some (.ref a0), l1, l2, l3] (.ref a0 :: s) h) ∧
  (∀ (P : Nat × Nat) (l1 : Option Value) (l2 : Option Value) (l3 : Option Value) (s : List Value) (h : am_H), am_E P 97 23 [some .null, l1, l2, l3] s h = am_E P 97 24 [some .null, l1, l2, l3] (.null :: s) h) ∧
  (∀ (P : Nat × Nat) (l0 : Option Value) (l1 : Option Value) (l2 : Option Value) (l3 : Option Value) (a0 : Nat) (s : List Value) (h : am_H), am_E P 97 24 [l0, l1, l2, l3] (.ref a0 :: s) h = (am_g1 h a0 9 7).bind (fun v => am_E P 97 27 [l0, l1, l2, l3] (v :: s) h)) ∧
  (∀ (P : Nat × Nat) (l0 : Option Value) (l2 : Option Value) (l3 : Option Value) (x0 : Int32) (s : List Value) (h : am_H), am_E P 97 27 [l0, some (.int x0), l2, l3] s h = am_E P 97 28 [l0, some (.int x0), l2, l3] (.int x0 :: s) h) ∧
  (∀ (P : Nat × Nat) (l0 : Option Value) (l1 : Option Value) (l2 : Option Value) (l3 : Option Value) (x0 : Int32) (a0 : Nat) (s : List Value) (h : am_H), am_E P 97 28 [l0, l1, l2, l3] (.int x0 :: .ref a0 :: s) h = (am_iald h a0 x0).bind (fun v => am_E P 97 29 [l0, l1, l2, l3] (.int v :: s) h)) ∧
  (∀ (P : Nat × Nat) (l0 : Option Value) (l1 : Option Value) (l2 : Option Value) (l3 : Option Value) (x0 : Int32) (s : List Value) (h : am_H), am_E P 97 29 [l0, l1, l2, l3] (.int x0 :: s) h = am_E P 97 30 [l0, l1, l2, some (.int x0)] s h) ∧
  (∀ (P : Nat × Nat) (l1 : Option Value) (l2 : Option Value) (l3 : Option Value) (a0 : Nat) (s : List Value) (h : am_H), am_E P 97 30 [some (.ref a0), l1, l2, l3] s h = am_E P 97 31 [some (.ref a0), l1, l2, l3] (.ref a0 :: s) h) ∧
  (∀ (P : Nat × Nat) (l1 : Option Value) (l2 : Option Value) (l3 : Option Value) (s : List Value) (h : am_H), am_E P 97 30 [some .null, l1, l2, l3] s h = am_E P 97 31 [some .null, l1, l2, l3] (.null :: s) h) ∧
  (∀ (P : Nat × Nat) (l0 : Option Value) (l1 : Option Value) (l2 : Option Value) (l3 : Option Value) (a0 : Nat) (s : List Value) (h : am_H), am_E P 97 31 [l0, l1, l2, l3] (.ref a0 :: s) h = (am_g1 h a0 9 7).bind (fun v => am_E P 97 34 [l0, l1, l2, l3] (v :: s) h)) ∧
  (∀ (P : Nat × Nat) (l0 : Option Value) (l2 : Option Value) (l3 : Option Value) (x0 : Int32) (s : List Value) (h : am_H), am_E P 97 34 [l0, some (.int x0), l2, l3] s h = am_E P 97 35 [l0, some (.int x0), l2, l3] (.int x0 :: s) h) ∧
  (∀ (P : Nat × Nat) (l0 : Option Value) (l1 : Option Value) (l3 : Option Value) (x0 : Int32) (s : List Value) (h : am_H), am_E P 97 35 [l0, l1, some (.int x0), l3] s h = am_E P 97 36 [l0, l1, some (.int x0), l3] (.int x0 :: s) h) ∧
  (∀ (P : Nat × Nat) (l0 : Option Value) (l1 : Option Value) (l2 : Option Value) (l3 : Option Value) (x0 : Int32) (x1 : Int32) (a0 : Nat) (s : List Value) (h : am_H), am_E P 97 36 [l0, l1, l2, l3] (.int x1 :: .int x0 :: .ref a0 :: s) h = (am_iast h a0 x0 x1).bind (fun h => am_E P 97 37 [l0, l1, l2, l3] s h)) ∧
  (∀ (P : Nat × Nat) (l0 : Option Value) (l1 : Option Value) (l2 : Option Value) (x0 : Int32) (s : List Value) (h : am_H), am_E P 97 37 [l0, l1, l2, some (.int x0)] s h = am_E P 97 38 [l0, l1, l2, some (.int x0)] (.int x0 :: s) h) ∧
  (∀ (P : Nat × Nat) (l0 : Option Value) (l1 : Option Value) (l2 : Option Value) (l3 : Option Value) (x0 : Int32) (h : am_H), am_E P 97 38 [l0, l1, l2, l3] [.int x0] h = some (some (.int x0), h)) :=
  ⟨fun _ _ _ _ _ _ _ => er_go rfl rfl,
  fun _ _ _ _ _ _ => er_go rfl rfl,
  fun _ _ _ _ _ _ _ => er_go rfl rfl,
  fun _ _ _ _ _ _ _ _ => er_callV rfl rfl rfl rfl,
  fun _ _ _ _ _ _ _ _ => er_if_eq rfl,
  fun _ _ _ _ _ _ _ => er_go rfl rfl,
  fun _ _ _ _ _ _ _ => er_ret rfl rfl,
  fun _ _ _ _ _ _ _ => er_go rfl rfl,
  fun _ _ _ _ _ _ _ => er_go rfl rfl,
  fun _ _ _ _ _ _ _ => er_go rfl rfl,
  fun _ _ _ _ _ _ _ _ _ => er_callS rfl rfl rfl,
  fun _ _ _ _ _ _ _ _ => er_if_eq rfl,
  fun _ _ _ _ _ _ _ => er_go rfl rfl,
  fun _ _ _ _ _ _ _ => er_ret rfl rfl,
  fun _ _ _ _ _ _ _ => er_go rfl rfl,
  fun _ _ _ _ _ _ => er_go rfl rfl,
  fun _ _ _ _ _ _ _ _ => er_get1 rfl,
  fun _ _ _ _ _ _ _ => er_go rfl rfl,
  fun _ _ _ _ _ _ _ _ _ => er_iald rfl,
  fun _ _ _ _ _ _ _ _ => er_go rfl rfl,
  fun _ _ _ _ _ _ _ => er_go rfl rfl,
  fun _ _ _ _ _ _ => er_go rfl rfl,
  fun _ _ _ _ _ _ _ _ => er_get1 rfl,
  fun _ _ _ _ _ _ _ => er_go rfl rfl,
  fun _ _ _ _ _ _ _ => er_go rfl rfl,
  fun _ _ _ _ _ _ _ _ _ _ => er_iast rfl,
  fun _ _ _ _ _ _ _ => er_go rfl rfl,
  fun _ _ _ _ _ _ _ => er_ret rfl rfl⟩
set_option maxRecDepth 100000 in
/-- TwoStepOutputsModel.power(I)I -/
theorem r98 : (∀ (P : Nat × Nat) (l0 : Option Value) (x0 : Int32) (s : List Value) (h : am_H), am_E P 98 0 [l0, some (.int x0)] s h = am_E P 98 1 [l0, some (.int x0)] (.int x0 :: s) h) ∧
  (∀ (P : Nat × Nat) (l0 : Option Value) (l1 : Option Value) (s : List Value) (h : am_H), am_E P 98 1 [l0, l1] s h = am_E P 98 3 [l0, l1] (.int (-6) :: s) h) ∧
  (∀ (P : Nat × Nat) (l0 : Option Value) (l1 : Option Value) (x0 : Int32) (x1 : Int32) (s : List Value) (h : am_H), am_E P 98 3 [l0, l1] (.int x1 :: .int x0 :: s) h = if x0 = x1 then am_E P 98 20 [l0, l1] s h else am_E P 98 6 [l0, l1] s h) ∧
  (∀ (P : Nat × Nat) (l0 : Option Value) (x0 : Int32) (s : List Value) (h : am_H), am_E P 98 6 [l0, some (.int x0)] s h = am_E P 98 7 [l0, some (.int x0)] (.int x0 :: s) h) ∧
  (∀ (P : Nat × Nat) (l0 : Option Value) (l1 : Option Value) (s : List Value) (h : am_H), am_E P 98 7 [l0, l1] s h = am_E P 98 8 [l0, l1] (.int 1 :: s) h) ∧
  (∀ (P : Nat × Nat) (l0 : Option Value) (l1 : Option Value) (s : List Value) (h : am_H), am_E P 98 8 [l0, l1] s h = am_E P 98 11 [l0, l1] (.int 5000 :: s) h) ∧
  (∀ (P : Nat × Nat) (l0 : Option Value) (l1 : Option Value) (x0 : Int32) (x1 : Int32) (x2 : Int32) (h : am_H), am_E P 98 11 [l0, l1] [.int x2, .int x1, .int x0] h = (am_E P 74 0 [some (.int x0), some (.int x1), some (.int x2)] [] h).bind (fun q => am_E P 98 14 [l0, l1] (q.1.toList ++ []) q.2)) ∧
  (∀ (P : Nat × Nat) (l0 : Option Value) (l1 : Option Value) (x0 : Int32) (s : List Value) (h : am_H), am_E P 98 14 [l0, l1] (.int x0 :: s) h = if x0 = 0 then am_E P 98 20 [l0, l1] s h else am_E P 98 17 [l0, l1] s h) ∧
  (∀ (P : Nat × Nat) (l0 : Option Value) (l1 : Option Value) (s : List Value) (h : am_H), am_E P 98 17 [l0, l1] s h = am_E P 98 19 [l0, l1] (.int (-2) :: s) h) ∧
  (∀ (P : Nat × Nat) (l0 : Option Value) (l1 : Option Value) (x0 : Int32) (h : am_H), am_E P 98 19 [l0, l1] [.int x0] h = some (some (.int x0), h)) ∧
  (∀ (P : Nat × Nat) (l1 : Option Value) (a0 : Nat) (s : List Value) (h : am_H), am_E P 98 20 [some (.ref a0), l1] s h = am_E P 98 21 [some (.ref a0), l1] (.ref a0 :: s) h) ∧
  (∀ (P : Nat × Nat) (l1 : Option Value) (s : List Value) (h : am_H), am_E P 98 20 [some .null, l1] s h = am_E P 98 21 [some .null, l1] (.null :: s) h) ∧
  (∀ (P : Nat × Nat) (l0 : Option Value) (l1 : Option Value) (a0 : Nat) (s : List Value) (h : am_H), am_E P 98 21 [l0, l1] (.ref a0 :: s) h = (am_g1 h a0 9 30).bind (fun v => am_E P 98 24 [l0, l1] (v :: s) h)) ∧
  (∀ (P : Nat × Nat) (l0 : Option Value) (l1 : Option Value) (x0 : Int32) (s : List Value) (h : am_H), am_E P 98 24 [l0, l1] (.int x0 :: s) h = if x0 = 0 then am_E P 98 30 [l0, l1] s h else am_E P 98 27 [l0, l1] s h) ∧
  (∀ (P : Nat × Nat) (l0 : Option Value) (l1 : Option Value) (s : List Value) (h : am_H), am_E P 98 27 [l0, l1] s h = am_E P 98 29 [l0, l1] (.int (-5) :: s) h) ∧
  (∀ (P : Nat × Nat) (l0 : Option Value) (l1 : Option Value) (x0 : Int32) (h : am_H), am_E P 98 29 [l0, l1] [.int x0] h = some (some (.int x0), h)) ∧
  (∀ (P : Nat × Nat) (l1 : Option Value) (a0 : Nat) (s : List Value) (h : am_H), am_E P 98 30 [some (.ref a0), l1] s h = am_E P 98 31 [some (.ref a0), l1] (.ref a0 :: s) h) ∧
  (∀ (P : Nat × Nat) (l1 : Option Value) (s : List Value) (h : am_H), am_E P 98 30 [some .null, l1] s h = am_E P 98 31 [some .null, l1] (.null :: s) h) ∧
  (∀ (P : Nat × Nat) (l0 : Option Value) (x0 : Int32) (s : List Value) (h : am_H), am_E P 98 31 [l0, some (.int x0)] s h = am_E P 98 32 [l0, some (.int x0)] (.int x0 :: s) h) ∧
  (∀ (P : Nat × Nat) (l0 : Option Value) (l1 : Option Value) (a0 : Nat) (x0 : Int32) (s : List Value) (h : am_H), am_E P 98 32 [l0, l1] (.int x0 :: .ref a0 :: s) h = (am_p1 h a0 9 31 (.int x0)).bind (fun h => am_E P 98 35 [l0, l1] s h)) ∧
  (∀ (P : Nat × Nat) (l0 : Option Value) (l1 : Option Value) (s : List Value) (h : am_H), am_E P 98 35 [l0, l1] s h = am_E P 98 36 [l0, l1] (.int 1 :: s) h) ∧
  (∀ (P : Nat × Nat) (l0 : Option Value) (l1 : Option Value) (x0 : Int32) (h : am_H), am_E P 98 36 [l0, l1] [.int x0] h = some (some (.int x0), h)) :=
  ⟨fun _ _ _ _ _ => er_go rfl rfl,
  fun _ _ _ _ _ => er_go rfl rfl,
  fun _ _ _ _ _ _ _ => er_ic_eq rfl,
  fun _ _ _ _ _ => er_go rfl rfl,
  fun _ _ _ _ _ => er_go rfl rfl,
  fun _ _ _ _ _ => er_go rfl rfl,
  fun _ _ _ _ _ _ _ => er_callS rfl rfl rfl,
  fun _ _ _ _ _ _ => er_if_eq rfl,
  fun _ _ _ _ _ => er_go rfl rfl,
  fun _ _ _ _ _ => er_ret rfl rfl,
  fun _ _ _ _ _ => er_go rfl rfl,
  fun _ _ _ _ => er_go rfl rfl,
  fun _ _ _ _ _ _ => er_get1 rfl,
  fun _ _ _ _ _ _ => er_if_eq rfl,
  fun _ _ _ _ _ => er_go rfl rfl,
  fun _ _ _ _ _ => er_ret rfl rfl,
  fun _ _ _ _ _ => er_go rfl rfl,
  fun _ _ _ _ => er_go rfl rfl,
  fun _ _ _ _ _ => er_go rfl rfl,
  fun _ _ _ _ _ _ _ => er_put1 rfl rfl,
  fun _ _ _ _ _ => er_go rfl rfl,
  fun _ _ _ _ _ => er_ret rfl rfl⟩
set_option maxRecDepth 100000 in
/-- TwoStepOutputsModel.open()I -/
theorem r99 : (∀ (P : Nat × Nat) (l1 : Option Value) (l2 : Option Value) (a0 : Nat) (s : List Value) (h : am_H), am_E P 99 0 [some (.ref a0), l1, l2] s h = am_E P 99 1 [some (.ref a0), l1, l2] (.ref a0 :: s) h) ∧
  (∀ (P : Nat × Nat) (l1 : Option Value) (l2 : Option Value) (s : List Value) (h : am_H), am_E P 99 0 [some .null, l1, l2] s h = am_E P 99 1 [some .null, l1, l2] (.null :: s) h) ∧
  (∀ (P : Nat × Nat) (l0 : Option Value) (l1 : Option Value) (l2 : Option Value) (s : List Value) (h : am_H), am_E P 99 1 [l0, l1, l2] s h = am_E P 99 3 [l0, l1, l2] (.int (-6) :: s) h) ∧
  (∀ (P : Nat × Nat) (l0 : Option Value) (l1 : Option Value) (l2 : Option Value) (a0 : Nat) (x0 : Int32) (s : List Value) (h : am_H), am_E P 99 3 [l0, l1, l2] (.int x0 :: .ref a0 :: s) h = (am_p1 h a0 9 31 (.int x0)).bind (fun h => am_E P 99 6 [l0, l1, l2] s h)) ∧
  (∀ (P : Nat × Nat) (l1 : Option Value) (l2 : Option Value) (a0 : Nat) (s : List Value) (h : am_H), am_E P 99 6 [some (.ref a0), l1, l2] s h = am_E P 99 7 [some (.ref a0), l1, l2] (.ref a0 :: s) h) ∧
  (∀ (P : Nat × Nat) (l1 : Option Value) (l2 : Option Value) (s : List Value) (h : am_H), am_E P 99 6 [some .null, l1, l2] s h = am_E P 99 7 [some .null, l1, l2] (.null :: s) h) ∧
  (∀ (P : Nat × Nat) (l0 : Option Value) (l1 : Option Value) (l2 : Option Value) (s : List Value) (h : am_H), am_E P 99 7 [l0, l1, l2] s h = am_E P 99 8 [l0, l1, l2] (.int 0 :: s) h) ∧
  (∀ (P : Nat × Nat) (l0 : Option Value) (l1 : Option Value) (l2 : Option Value) (a0 : Nat) (x0 : Int32) (s : List Value) (h : am_H), am_E P 99 8 [l0, l1, l2] (.int x0 :: .ref a0 :: s) h = if x0 = 0 ∨ x0 = 1 then (am_p1 h a0 9 30 (.int x0)).bind (fun h => am_E P 99 11 [l0, l1, l2] s h) else none) ∧
  (∀ (P : Nat × Nat) (l1 : Option Value) (l2 : Option Value) (a0 : Nat) (s : List Value) (h : am_H), am_E P 99 11 [some (.ref a0), l1, l2] s h = am_E P 99 12 [some (.ref a0), l1, l2] (.ref a0 :: s) h) ∧
  (∀ (P : Nat × Nat) (l1 : Option Value) (l2 : Option Value) (s : List Value) (h : am_H), am_E P 99 11 [some .null, l1, l2] s h = am_E P 99 12 [some .null, l1, l2] (.null :: s) h) ∧
  (∀ (P : Nat × Nat) (l0 : Option Value) (l1 : Option Value) (l2 : Option Value) (a0 : Nat) (h : am_H), am_E P 99 12 [l0, l1, l2] [.ref a0] h = if am_cls h a0 = some 9 then (am_E P 77 0 [some (.ref a0), none] [] h).bind (fun q => am_E P 99 15 [l0, l1, l2] (q.1.toList ++ []) q.2) else none) ∧
  (∀ (P : Nat × Nat) (l1 : Option Value) (l2 : Option Value) (a0 : Nat) (s : List Value) (h : am_H), am_E P 99 15 [some (.ref a0), l1, l2] s h = am_E P 99 16 [some (.ref a0), l1, l2] (.ref a0 :: s) h) ∧
  (∀ (P : Nat × Nat) (l1 : Option Value) (l2 : Option Value) (s : List Value) (h : am_H), am_E P 99 15 [some .null, l1, l2] s h = am_E P 99 16 [some .null, l1, l2] (.null :: s) h) ∧
  (∀ (P : Nat × Nat) (l0 : Option Value) (l1 : Option Value) (l2 : Option Value) (s : List Value) (h : am_H), am_E P 99 16 [l0, l1, l2] s h = am_E P 99 18 [l0, l1, l2] (.int (-6) :: s) h) ∧
  (∀ (P : Nat × Nat) (l0 : Option Value) (l1 : Option Value) (l2 : Option Value) (a0 : Nat) (x0 : Int32) (s : List Value) (h : am_H), am_E P 99 18 [l0, l1, l2] (.int x0 :: .ref a0 :: s) h = (am_p1 h a0 9 25 (.int x0)).bind (fun h => am_E P 99 21 [l0, l1, l2] s h)) ∧
  (∀ (P : Nat × Nat) (l1 : Option Value) (l2 : Option Value) (a0 : Nat) (s : List Value) (h : am_H), am_E P 99 21 [some (.ref a0), l1, l2] s h = am_E P 99 22 [some (.ref a0), l1, l2] (.ref a0 :: s) h) ∧
  (∀ (P : Nat × Nat) (l1 : Option Value) (l2 : Option Value) (s : List Value) (h : am_H), am_E P 99 21 [some .null, l1, l2] s h = am_E P 99 22 [some .null, l1, l2] (.null :: s) h) ∧
  (∀ (P : Nat × Nat) (l0 : Option Value) (l1 : Option Value) (l2 : Option Value) (s : List Value) (h : am_H), am_E P 99 22 [l0, l1, l2] s h = am_E P 99 23 [l0, l1, l2] (.int 0 :: s) h) ∧
  (∀ (P : Nat × Nat) (l0 : Option Value) (l1 : Option Value) (l2 : Option Value) (a0 : Nat) (x0 : Int32) (s : List Value) (h : am_H), am_E P 99 23 [l0, l1, l2] (.int x0 :: .ref a0 :: s) h = if x0 = 0 ∨ x0 = 1 then (am_p1 h a0 9 29 (.int x0)).bind (fun h => am_E P 99 26 [l0, l1, l2] s h) else none) ∧
  (∀ (P : Nat × Nat) (l0 : Option Value) (l1 : Option Value) (l2 : Option Value) (s : List Value) (h : am_H), am_E P 99 26 [l0, l1, l2] s h = am_E P 99 27 [l0, l1, l2] (.int 0 :: s) h) ∧
  (∀ (P : Nat × Nat) (l0 : Option Value) (l1 : Option Value) (l2 : Option Value) (x0 : Int32) (s : List Value) (h : am_H), am_E P 99 27 [l0, l1, l2] (.int x0 :: s) h = am_E P 99 28 [l0, some (.int x0), l2] s h) ∧
  (∀ (P : Nat × Nat) (l1 : Option Value) (l2 : Option Value) (a0 : Nat) (s : List Value) (h : am_H), am_E P 99 29 [some (.ref a0), l1, l2] s h = am_E P 99 30 [some (.ref a0), l1, l2] (.ref a0 :: s) h) ∧
  (∀ (P : Nat × Nat) (l1 : Option Value) (l2 : Option Value) (s : List Value) (h : am_H), am_E P 99 29 [some .null, l1, l2] s h = am_E P 99 30 [some .null, l1, l2] (.null :: s) h) ∧
  (∀ (P : Nat × Nat) (l0 : Option Value) (l1 : Option Value) (l2 : Option Value) (a0 : Nat) (s : List Value) (h : am_H), am_E P 99 30 [l0, l1, l2] (.ref a0 :: s) h = (am_g1 h a0 9 0).bind (fun v => am_E P 99 33 [l0, l1, l2] (v :: s) h)) ∧
  (∀ (P : Nat × Nat) (l0 : Option Value) (l1 : Option Value) (l2 : Option Value) (x0 : Int32) (x1 : Int32) (s : List Value) (h : am_H), am_E P 99 33 [l0, l1, l2] (.int x1 :: .int x0 :: s) h = if x1 ≤ x0 then am_E P 99 49 [l0, l1, l2] s h else am_E P 99 36 [l0, l1, l2] s h) ∧
  (∀ (P : Nat × Nat) (l1 : Option Value) (l2 : Option Value) (a0 : Nat) (s : List Value) (h : am_H), am_E P 99 36 [some (.ref a0), l1, l2] s h = am_E P 99 37 [some (.ref a0), l1, l2] (.ref a0 :: s) h) ∧
  (∀ (P : Nat × Nat) (l1 : Option Value) (l2 : Option Value) (s : List Value) (h : am_H), am_E P 99 36 [some .null, l1, l2] s h = am_E P 99 37 [some .null, l1, l2] (.null :: s) h) ∧
  (∀ (P : Nat × Nat) (l0 : Option Value) (l1 : Option Value) (l2 : Option Value) (a0 : Nat) (s : List Value) (h : am_H), am_E P 99 37 [l0, l1, l2] (.ref a0 :: s) h = (am_g1 h a0 9 5).bind (fun v => am_E P 99 40 [l0, l1, l2] (v :: s) h)) ∧
  (∀ (P : Nat × Nat) (l0 : Option Value) (l2 : Option Value) (x0 : Int32) (s : List Value) (h : am_H), am_E P 99 40 [l0, some (.int x0), l2] s h = am_E P 99 41 [l0, some (.int x0), l2] (.int x0 :: s) h) ∧
  (∀ (P : Nat × Nat) (l0 : Option Value) (l1 : Option Value) (l2 : Option Value) (s : List Value) (h : am_H), am_E P 99 41 [l0, l1, l2] s h = am_E P 99 42 [l0, l1, l2] (.int 0 :: s) h) ∧
  (∀ (P : Nat × Nat) (l0 : Option Value) (l1 : Option Value) (l2 : Option Value) (x0 : Int32) (x1 : Int32) (a0 : Nat) (s : List Value) (h : am_H), am_E P 99 42 [l0, l1, l2] (.int x1 :: .int x0 :: .ref a0 :: s) h = (am_iast h a0 x0 x1).bind (fun h => am_E P 99 43 [l0, l1, l2] s h)) ∧
  (∀ (P : Nat × Nat) (l0 : Option Value) (l2 : Option Value) (x0 : Int32) (s : List Value) (h : am_H), am_E P 99 43 [l0, some (.int x0), l2] s h = am_E P 99 46 [l0, some (.int (x0 + 1)), l2] s h) ∧
  (∀ (P : Nat × Nat) (l0 : Option Value) (l1 : Option Value) (l2 : Option Value) (s : List Value) (h : am_H), am_E P 99 46 [l0, l1, l2] s h = am_E P 99 28 [l0, l1, l2] s h) ∧
  (∀ (P : Nat × Nat) (l0 : Option Value) (l1 : Option Value) (l2 : Option Value) (s : List Value) (h : am_H), am_E P 99 49 [l0, l1, l2] s h = am_E P 99 50 [l0, l1, l2] (.int 0 :: s) h) ∧
  (∀ (P : Nat × Nat) (l0 : Option Value) (l1 : Option Value) (l2 : Option Value) (x0 : Int32) (s : List Value) (h : am_H), am_E P 99 50 [l0, l1, l2] (.int x0 :: s) h = am_E P 99 51 [l0, some (.int x0), l2] s h) ∧
  (∀ (P : Nat × Nat) (l1 : Option Value) (l2 : Option Value) (a0 : Nat) (s : List Value) (h : am_H), am_E P 99 52 [some (.ref a0), l1, l2] s h = am_E P 99 53 [some (.ref a0), l1, l2] (.ref a0 :: s) h) ∧
  (∀ (P : Nat × Nat) (l1 : Option Value) (l2 : Option Value) (s : List Value) (h : am_H), am_E P 99 52 [some .null, l1, l2] s h = am_E P 99 53 [some .null, l1, l2] (.null :: s) h) ∧
  (∀ (P : Nat × Nat) (l0 : Option Value) (l1 : Option Value) (l2 : Option Value) (a0 : Nat) (s : List Value) (h : am_H), am_E P 99 53 [l0, l1, l2] (.ref a0 :: s) h = (am_g1 h a0 9 8).bind (fun v => am_E P 99 56 [l0, l1, l2] (v :: s) h)) ∧
  (∀ (P : Nat × Nat) (l0 : Option Value) (l1 : Option Value) (l2 : Option Value) (x0 : Int32) (x1 : Int32) (s : List Value) (h : am_H), am_E P 99 56 [l0, l1, l2] (.int x1 :: .int x0 :: s) h = if x1 ≤ x0 then am_E P 99 162 [l0, l1, l2] s h else am_E P 99 59 [l0, l1, l2] s h) ∧
  (∀ (P : Nat × Nat) (l1 : Option Value) (l2 : Option Value) (a0 : Nat) (s : List Value) (h : am_H), am_E P 99 59 [some (.ref a0), l1, l2] s h = am_E P 99 60 [some (.ref a0), l1, l2] (.ref a0 :: s) h) ∧
  (∀ (P : Nat × Nat) (l1 : Option Value) (l2 : Option Value) (s : List Value) (h : am_H), am_E P 99 59 [some .null, l1, l2] s h = am_E P 99 60 [some .null, l1, l2] (.null :: s) h) ∧
  (∀ (P : Nat × Nat) (l0 : Option Value) (l1 : Option Value) (l2 : Option Value) (a0 : Nat) (s : List Value) (h : am_H), am_E P 99 60 [l0, l1, l2] (.ref a0 :: s) h = (am_g1 h a0 9 9).bind (fun v => am_E P 99 63 [l0, l1, l2] (v :: s) h)) ∧
  (∀ (P : Nat × Nat) (l0 : Option Value) (l2 : Option Value) (x0 : Int32) (s : List Value) (h : am_H), am_E P 99 63 [l0, some (.int x0), l2] s h = am_E P 99 64 [l0, some (.int x0), l2] (.int x0 :: s) h) ∧
  (∀ (P : Nat × Nat) (l0 : Option Value) (l1 : Option Value) (l2 : Option Value) (x0 : Int32) (a0 : Nat) (s : List Value) (h : am_H), am_E P 99 64 [l0, l1, l2] (.int x0 :: .ref a0 :: s) h = (am_iald h a0 x0).bind (fun v => am_E P 99 65 [l0, l1, l2] (.int v :: s) h)) ∧
  (∀ (P : Nat × Nat) (l0 : Option Value) (l1 : Option Value) (l2 : Option Value) (s : List Value) (h : am_H), am_E P 99 65 [l0, l1, l2] s h = am_E P 99 66 [l0, l1, l2] (.int 2 :: s) h) ∧
  (∀ (P : Nat × Nat) (l0 : Option Value) (l1 : Option Value) (l2 : Option Value) (x0 : Int32) (x1 : Int32) (s : List Value) (h : am_H), am_E P 99 66 [l0, l1, l2] (.int x1 :: .int x0 :: s) h = if x0 = x1 then am_E P 99 79 [l0, l1, l2] s h else am_E P 99 69 [l0, l1, l2] s h) ∧
  (∀ (P : Nat × Nat) (l1 : Option Value) (l2 : Option Value) (a0 : Nat) (s : List Value) (h : am_H), am_E P 99 69 [some (.ref a0), l1, l2] s h = am_E P 99 70 [some (.ref a0), l1, l2] (.ref a0 :: s) h) ∧
  (∀ (P : Nat × Nat) (l1 : Option Value) (l2 : Option Value) (s : List Value) (h : am_H), am_E P 99 69 [some .null, l1, l2] s h = am_E P 99 70 [some .null, l1, l2] (.null :: s) h) ∧
  (∀ (P : Nat × Nat) (l0 : Option Value) (l1 : Option Value) (l2 : Option Value) (a0 : Nat) (s : List Value) (h : am_H), am_E P 99 70 [l0, l1, l2] (.ref a0 :: s) h = (am_g1 h a0 9 9).bind (fun v => am_E P 99 73 [l0, l1, l2] (v :: s) h)) ∧
  (∀ (P : Nat × Nat) (l0 : Option Value) (l2 : Option Value) (x0 : Int32) (s : List Value) (h : am_H), am_E P 99 73 [l0, some (.int x0), l2] s h = am_E P 99 74 [l0, some (.int x0), l2] (.int x0 :: s) h) ∧
  (∀ (P : Nat × Nat) (l0 : Option Value) (l1 : Option Value) (l2 : Option Value) (x0 : Int32) (a0 : Nat) (s : List Value) (h : am_H), am_E P 99 74 [l0, l1, l2] (.int x0 :: .ref a0 :: s) h = (am_iald h a0 x0).bind (fun v => am_E P 99 75 [l0, l1, l2] (.int v :: s) h)) ∧
  (∀ (P : Nat × Nat) (l0 : Option Value) (l1 : Option Value) (l2 : Option Value) (s : List Value) (h : am_H), am_E P 99 75 [l0, l1, l2] s h = am_E P 99 76 [l0, l1, l2] (.int 5 :: s) h) ∧
  (∀ (P : Nat × Nat) (l0 : Option Value) (l1 : Option Value) (l2 : Option Value) (x0 : Int32) (x1 : Int32) (s : List Value) (h : am_H), am_E P 99 76 [l0, l1, l2] (.int x1 :: .int x0 :: s) h = if x0 = x1 then am_E P 99 79 [l0, l1, l2] s h else am_E P 99 123 [l0, l1, l2] s h) ∧
  (∀ (P : Nat × Nat) (l1 : Option Value) (l2 : Option Value) (a0 : Nat) (s : List Value) (h : am_H), am_E P 99 79 [some (.ref a0), l1, l2] s h = am_E P 99 80 [some (.ref a0), l1, l2] (.ref a0 :: s) h) ∧
  (∀ (P : Nat × Nat) (l1 : Option Value) (l2 : Option Value) (s : List Value) (h : am_H), am_E P 99 79 [some .null, l1, l2] s h = am_E P 99 80 [some .null, l1, l2] (.null :: s) h) ∧
  (∀ (P : Nat × Nat) (l1 : Option Value) (l2 : Option Value) (a0 : Nat) (s : List Value) (h : am_H), am_E P 99 80 [some (.ref a0), l1, l2] s h = am_E P 99 81 [some (.ref a0), l1, l2] (.ref a0 :: s) h) ∧
  (∀ (P : Nat × Nat) (l1 : Option Value) (l2 : Option Value) (s : List Value) (h : am_H), am_E P 99 80 [some .null, l1, l2] s h = am_E P 99 81 [some .null, l1, l2] (.null :: s) h) ∧
  (∀ (P : Nat × Nat) (l0 : Option Value) (l1 : Option Value) (l2 : Option Value) (a0 : Nat) (s : List Value) (h : am_H), am_E P 99 81 [l0, l1, l2] (.ref a0 :: s) h = (am_g1 h a0 9 25).bind (fun v => am_E P 99 84 [l0, l1, l2] (v :: s) h)) ∧
  (∀ (P : Nat × Nat) (l1 : Option Value) (l2 : Option Value) (a0 : Nat) (s : List Value) (h : am_H), am_E P 99 84 [some (.ref a0), l1, l2] s h = am_E P 99 85 [some (.ref a0), l1, l2] (.ref a0 :: s) h) ∧
  (∀ (P : Nat × Nat) (l1 : Option Value) (l2 : Option Value) (s : List Value) (h : am_H), am_E P 99 84 [some .null, l1, l2] s h = am_E P 99 85 [some .null, l1, l2] (.null :: s) h) ∧
  (∀ (P : Nat × Nat) (l0 : Option Value) (l1 : Option Value) (l2 : Option Value) (a0 : Nat) (s : List Value) (h : am_H), am_E P 99 85 [l0, l1, l2] (.ref a0 :: s) h = (am_g1 h a0 9 12).bind (fun v => am_E P 99 88 [l0, l1, l2] (v :: s) h)) ∧
  (∀ (P : Nat × Nat) (l0 : Option Value) (l2 : Option Value) (x0 : Int32) (s : List Value) (h : am_H), am_E P 99 88 [l0, some (.int x0), l2] s h = am_E P 99 89 [l0, some (.int x0), l2] (.int x0 :: s) h) ∧
  (∀ (P : Nat × Nat) (l0 : Option Value) (l1 : Option Value) (l2 : Option Value) (x0 : Int32) (a0 : Nat) (s : List Value) (h : am_H), am_E P 99 89 [l0, l1, l2] (.int x0 :: .ref a0 :: s) h = (am_iald h a0 x0).bind (fun v => am_E P 99 90 [l0, l1, l2] (.int v :: s) h)) ∧
  (∀ (P : Nat × Nat) (l0 : Option Value) (l1 : Option Value) (l2 : Option Value) (x0 : Int32) (x1 : Int32) (v0 : Value) (h : am_H), am_E P 99 90 [l0, l1, l2] [.int x1, .int x0, v0] h = (am_E P 72 0 [some (.int x0), some (.int x1)] [] h).bind (fun q => am_E P 99 93 [l0, l1, l2] (q.1.toList ++ [v0]) q.2)) ∧
  (∀ (P : Nat × Nat) (l0 : Option Value) (l1 : Option Value) (l2 : Option Value) (a0 : Nat) (x0 : Int32) (s : List Value) (h : am_H), am_E P 99 93 [l0, l1, l2] (.int x0 :: .ref a0 :: s) h = (am_p1 h a0 9 25 (.int x0)).bind (fun h => am_E P 99 96 [l0, l1, l2] s h)) ∧
  (∀ (P : Nat × Nat) (l1 : Option Value) (l2 : Option Value) (a0 : Nat) (s : List Value) (h : am_H), am_E P 99 96 [some (.ref a0), l1, l2] s h = am_E P 99 97 [some (.ref a0), l1, l2] (.ref a0 :: s) h) ∧
  (∀ (P : Nat × Nat) (l1 : Option Value) (l2 : Option Value) (s : List Value) (h : am_H), am_E P 99 96 [some .null, l1, l2] s h = am_E P 99 97 [some .null, l1, l2] (.null :: s) h) ∧
  (∀ (P : Nat × Nat) (l0 : Option Value) (l1 : Option Value) (l2 : Option Value) (a0 : Nat) (s : List Value) (h : am_H), am_E P 99 97 [l0, l1, l2] (.ref a0 :: s) h = am_E P 99 98 [l0, l1, l2] (.ref a0 :: .ref a0 :: s) h) ∧
  (∀ (P : Nat × Nat) (l0 : Option Value) (l1 : Option Value) (l2 : Option Value) (a0 : Nat) (s : List Value) (h : am_H), am_E P 99 98 [l0, l1, l2] (.ref a0 :: s) h = (am_g1 h a0 9 29).bind (fun v => am_E P 99 101 [l0, l1, l2] (v :: s) h)) ∧
  (∀ (P : Nat × Nat) (l1 : Option Value) (l2 : Option Value) (a0 : Nat) (s : List Value) (h : am_H), am_E P 99 101 [some (.ref a0), l1, l2] s h = am_E P 99 102 [some (.ref a0), l1, l2] (.ref a0 :: s) h) ∧
  (∀ (P : Nat × Nat) (l1 : Option Value) (l2 : Option Value) (s : List Value) (h : am_H), am_E P 99 101 [some .null, l1, l2] s h = am_E P 99 102 [some .null, l1, l2] (.null :: s) h) ∧
  (∀ (P : Nat × Nat) (l0 : Option Value) (l1 : Option Value) (l2 : Option Value) (a0 : Nat) (s : List Value) (h : am_H), am_E P 99 102 [l0, l1, l2] (.ref a0 :: s) h = (am_g1 h a0 9 9).bind (fun v => am_E P 99 105 [l0, l1, l2] (v :: s) h)) ∧
  (∀ (P : Nat × Nat) (l0 : Option Value) (l2 : Option Value) (x0 : Int32) (s : List Value) (h : am_H), am_E P 99 105 [l0, some (.int x0), l2] s h = am_E P 99 106 [l0, some (.int x0), l2] (.int x0 :: s) h) ∧
  (∀ (P : Nat × Nat) (l0 : Option Value) (l1 : Option Value) (l2 : Option Value) (x0 : Int32) (a0 : Nat) (s : List Value) (h : am_H), am_E P 99 106 [l0, l1, l2] (.int x0 :: .ref a0 :: s) h = (am_iald h a0 x0).bind (fun v => am_E P 99 107 [l0, l1, l2] (.int v :: s) h)) ∧
  (∀ (P : Nat × Nat) (l0 : Option Value) (l1 : Option Value) (l2 : Option Value) (s : List Value) (h : am_H), am_E P 99 107 [l0, l1, l2] s h = am_E P 99 108 [l0, l1, l2] (.int 5 :: s) h) ∧
  (∀ (P : Nat × Nat) (l0 : Option Value) (l1 : Option Value) (l2 : Option Value) (x0 : Int32) (x1 : Int32) (s : List Value) (h : am_H), am_E P 99 108 [l0, l1, l2] (.int x1 :: .int x0 :: s) h = if x0 = x1 then am_E P 99 111 [l0, l1, l2] s h else am_E P 99 115 [l0, l1, l2] s h) ∧
  (∀ (P : Nat × Nat) (l0 : Option Value) (l1 : Option Value) (l2 : Option Value) (s : List Value) (h : am_H), am_E P 99 111 [l0, l1, l2] s h = am_E P 99 112 [l0, l1, l2] (.int 1 :: s) h) ∧
  (∀ (P : Nat × Nat) (l0 : Option Value) (l1 : Option Value) (l2 : Option Value) (s : List Value) (h : am_H), am_E P 99 112 [l0, l1, l2] s h = am_E P 99 116 [l0, l1, l2] s h) ∧
  (∀ (P : Nat × Nat) (l0 : Option Value) (l1 : Option Value) (l2 : Option Value) (s : List Value) (h : am_H), am_E P 99 115 [l0, l1, l2] s h = am_E P 99 116 [l0, l1, l2] (.int 0 :: s) h) ∧
  (∀ (P : Nat × Nat) (l0 : Option Value) (l1 : Option Value) (l2 : Option Value) (x0 : Int32) (x1 : Int32) (s : List Value) (h : am_H), am_E P 99 116 [l0, l1, l2] (.int x1 :: .int x0 :: s) h = am_E P 99 117 [l0, l1, l2] (.int (x0 ||| x1) :: s) h) ∧
  (∀ (P : Nat × Nat) (l0 : Option Value) (l1 : Option Value) (l2 : Option Value) (a0 : Nat) (x0 : Int32) (s : List Value) (h : am_H), am_E P 99 117 [l0, l1, l2] (.int x0 :: .ref a0 :: s) h = if x0 = 0 ∨ x0 = 1 then (am_p1 h a0 9 29 (.int x0)).bind (fun h => am_E P 99 120 [l0, l1, l2] s h) else none) ∧
  (∀ (P : Nat × Nat) (l0 : Option Value) (l1 : Option Value) (l2 : Option Value) (s : List Value) (h : am_H), am_E P 99 120 [l0, l1, l2] s h = am_E P 99 156 [l0, l1, l2] s h) ∧
  (∀ (P : Nat × Nat) (l1 : Option Value) (l2 : Option Value) (a0 : Nat) (s : List Value) (h : am_H), am_E P 99 123 [some (.ref a0), l1, l2] s h = am_E P 99 124 [some (.ref a0), l1, l2] (.ref a0 :: s) h) ∧
  (∀ (P : Nat × Nat) (l1 : Option Value) (l2 : Option Value) (s : List Value) (h : am_H), am_E P 99 123 [some .null, l1, l2] s h = am_E P 99 124 [some .null, l1, l2] (.null :: s) h) ∧
  (∀ (P : Nat × Nat) (l0 : Option Value) (l1 : Option Value) (l2 : Option Value) (a0 : Nat) (s : List Value) (h : am_H), am_E P 99 124 [l0, l1, l2] (.ref a0 :: s) h = (am_g1 h a0 9 5).bind (fun v => am_E P 99 127 [l0, l1, l2] (v :: s) h)) ∧
  (∀ (P : Nat × Nat) (l1 : Option Value) (l2 : Option Value) (a0 : Nat) (s : List Value) (h : am_H), am_E P 99 127 [some (.ref a0), l1, l2] s h = am_E P 99 128 [some (.ref a0), l1, l2] (.ref a0 :: s) h) ∧
  (∀ (P : Nat × Nat) (l1 : Option Value) (l2 : Option Value) (s : List Value) (h : am_H), am_E P 99 127 [some .null, l1, l2] s h = am_E P 99 128 [some .null, l1, l2] (.null :: s) h) ∧
  (∀ (P : Nat × Nat) (l0 : Option Value) (l1 : Option Value) (l2 : Option Value) (a0 : Nat) (s : List Value) (h : am_H), am_E P 99 128 [l0, l1, l2] (.ref a0 :: s) h = (am_g1 h a0 9 10).bind (fun v => am_E P 99 131 [l0, l1, l2] (v :: s) h)) ∧
  (∀ (P : Nat × Nat) (l0 : Option Value) (l2 : Option Value) (x0 : Int32) (s : List Value) (h : am_H), am_E P 99 131 [l0, some (.int x0), l2] s h = am_E P 99 132 [l0, some (.int x0), l2] (.int x0 :: s) h) ∧
  (∀ (P : Nat × Nat) (l0 : Option Value) (l1 : Option Value) (l2 : Option Value) (x0 : Int32) (a0 : Nat) (s : List Value) (h : am_H), am_E P 99 132 [l0, l1, l2] (.int x0 :: .ref a0 :: s) h = (am_iald h a0 x0).bind (fun v => am_E P 99 133 [l0, l1, l2] (.int v :: s) h)) ∧
  (∀ (P : Nat × Nat) (l1 : Option Value) (l2 : Option Value) (a0 : Nat) (s : List Value) (h : am_H), am_E P 99 133 [some (.ref a0), l1, l2] s h = am_E P 99 134 [some (.ref a0), l1, l2] (.ref a0 :: s) h) ∧
  (∀ (P : Nat × Nat) (l1 : Option Value) (l2 : Option Value) (s : List Value) (h : am_H), am_E P 99 133 [some .null, l1, l2] s h = am_E P 99 134 [some .null, l1, l2] (.null :: s) h) ∧
  (∀ (P : Nat × Nat) (l0 : Option Value) (l1 : Option Value) (l2 : Option Value) (a0 : Nat) (s : List Value) (h : am_H), am_E P 99 134 [l0, l1, l2] (.ref a0 :: s) h = (am_g1 h a0 9 5).bind (fun v => am_E P 99 137 [l0, l1, l2] (v :: s) h)) ∧
  (∀ (P : Nat × Nat) (l1 : Option Value) (l2 : Option Value) (a0 : Nat) (s : List Value) (h : am_H), am_E P 99 137 [some (.ref a0), l1, l2] s h = am_E P 99 138 [some (.ref a0), l1, l2] (.ref a0 :: s) h) ∧
  (∀ (P : Nat × Nat) (l1 : Option Value) (l2 : Option Value) (s : List Value) (h : am_H), am_E P 99 137 [some .null, l1, l2] s h = am_E P 99 138 [some .null, l1, l2] (.null :: s) h) ∧
  (∀ (P : Nat × Nat) (l0 : Option Value) (l1 : Option Value) (l2 : Option Value) (a0 : Nat) (s : List Value) (h : am_H), am_E P 99 138 [l0, l1, l2] (.ref a0 :: s) h = (am_g1 h a0 9 10).bind (fun v => am_E P 99 141 [l0, l1, l2] (v :: s) h)) ∧
  (∀ (P : Nat × Nat) (l0 : Option Value) (l2 : Option Value) (x0 : Int32) (s : List Value) (h : am_H), am_E P 99 141 [l0, some (.int x0), l2] s h = am_E P 99 142 [l0, some (.int x0), l2] (.int x0 :: s) h) ∧
  (∀ (P : Nat × Nat) (l0 : Option Value) (l1 : Option Value) (l2 : Option Value) (x0 : Int32) (a0 : Nat) (s : List Value) (h : am_H), am_E P 99 142 [l0, l1, l2] (.int x0 :: .ref a0 :: s) h = (am_iald h a0 x0).bind (fun v => am_E P 99 143 [l0, l1, l2] (.int v :: s) h)) ∧
  (∀ (P : Nat × Nat) (l0 : Option Value) (l1 : Option Value) (l2 : Option Value) (x0 : Int32) (a0 : Nat) (s : List Value) (h : am_H), am_E P 99 143 [l0, l1, l2] (.int x0 :: .ref a0 :: s) h = (am_iald h a0 x0).bind (fun v => am_E P 99 144 [l0, l1, l2] (.int v :: s) h)) ∧
  (∀ (P : Nat × Nat) (l1 : Option Value) (l2 : Option Value) (a0 : Nat) (s : List Value) (h : am_H), am_E P 99 144 [some (.ref a0), l1, l2] s h = am_E P 99 145 [some (.ref a0), l1, l2] (.ref a0 :: s) h) ∧
  (∀ (P : Nat × Nat) (l1 : Option Value) (l2 : Option Value) (s : List Value) (h : am_H), am_E P 99 144 [some .null, l1, l2] s h = am_E P 99 145 [some .null, l1, l2] (.null :: s) h) ∧
  (∀ (P : Nat × Nat) (l0 : Option Value) (l1 : Option Value) (l2 : Option Value) (a0 : Nat) (s : List Value) (h : am_H), am_E P 99 145 [l0, l1, l2] (.ref a0 :: s) h = (am_g1 h a0 9 11).bind (fun v => am_E P 99 148 [l0, l1, l2] (v :: s) h)) ∧
  (∀ (P : Nat × Nat) (l0 : Option Value) (l2 : Option Value) (x0 : Int32) (s : List Value) (h : am_H), am_E P 99 148 [l0, some (.int x0), l2] s h = am_E P 99 149 [l0, some (.int x0), l2] (.int x0 :: s) h) ∧
  (∀ (P : Nat × Nat) (l0 : Option Value) (l1 : Option Value) (l2 : Option Value) (x0 : Int32) (a0 : Nat) (s : List Value) (h : am_H), am_E P 99 149 [l0, l1, l2] (.int x0 :: .ref a0 :: s) h = (am_iald h a0 x0).bind (fun v => am_E P 99 150 [l0, l1, l2] (.int v :: s) h)) ∧
  (∀ (P : Nat × Nat) (l0 : Option Value) (l1 : Option Value) (l2 : Option Value) (s : List Value) (h : am_H), am_E P 99 150 [l0, l1, l2] s h = am_E P 99 151 [l0, l1, l2] (.int 1 :: s) h) ∧
  (∀ (P : Nat × Nat) (l0 : Option Value) (l1 : Option Value) (l2 : Option Value) (x0 : Int32) (x1 : Int32) (s : List Value) (h : am_H), am_E P 99 151 [l0, l1, l2] (.int x1 :: .int x0 :: s) h = am_E P 99 152 [l0, l1, l2] (.int (x0 + x1) :: s) h) ∧
  (∀ (P : Nat × Nat) (l0 : Option Value) (l1 : Option Value) (l2 : Option Value) (x0 : Int32) (x1 : Int32) (v0 : Value) (v1 : Value) (h : am_H), am_E P 99 152 [l0, l1, l2] [.int x1, .int x0, v0, v1] h = (am_E P 72 0 [some (.int x0), some (.int x1)] [] h).bind (fun q => am_E P 99 155 [l0, l1, l2] (q.1.toList ++ [v0, v1]) q.2)) ∧
  (∀ (P : Nat × Nat) (l0 : Option Value) (l1 : Option Value) (l2 : Option Value) (x0 : Int32) (x1 : Int32) (a0 : Nat) (s : List Value) (h : am_H), am_E P 99 155 [l0, l1, l2] (.int x1 :: .int x0 :: .ref a0 :: s) h = (am_iast h a0 x0 x1).bind (fun h => am_E P 99 156 [l0, l1, l2] s h)) ∧
  (∀ (P : Nat × Nat) (l0 : Option Value) (l2 : Option Value) (x0 : Int32) (s : List Value) (h : am_H), am_E P 99 156 [l0, some (.int x0), l2] s h = am_E P 99 159 [l0, some (.int (x0 + 1)), l2] s h) ∧
  (∀ (P : Nat × Nat) (l0 : Option Value) (l1 : Option Value) (l2 : Option Value) (s : List Value) (h : am_H), am_E P 99 159 [l0, l1, l2] s h = am_E P 99 51 [l0, l1, l2] s h) ∧
  (∀ (P : Nat × Nat) (l0 : Option Value) (l1 : Option Value) (l2 : Option Value) (a0 : Nat) (s : List Value) (h : am_H), am_E P 99 163 [l0, l1, l2] (.ref a0 :: s) h = (am_g1 h a0 9 27).bind (fun v => am_E P 99 166 [l0, l1, l2] (v :: s) h)) ∧
  (∀ (P : Nat × Nat) (l0 : Option Value) (l1 : Option Value) (l2 : Option Value) (x0 : Int32) (s : List Value) (h : am_H), am_E P 99 166 [l0, l1, l2] (.int x0 :: s) h = if x0 ≤ 0 then am_E P 99 209 [l0, l1, l2] s h else am_E P 99 169 [l0, l1, l2] s h) ∧
  (∀ (P : Nat × Nat) (l1 : Option Value) (l2 : Option Value) (a0 : Nat) (s : List Value) (h : am_H), am_E P 99 169 [some (.ref a0), l1, l2] s h = am_E P 99 170 [some (.ref a0), l1, l2] (.ref a0 :: s) h) ∧
  (∀ (P : Nat × Nat) (l1 : Option Value) (l2 : Option Value) (s : List Value) (h : am_H), am_E P 99 169 [some .null, l1, l2] s h = am_E P 99 170 [some .null, l1, l2] (.null :: s) h) ∧
  (∀ (P : Nat × Nat) (l0 : Option Value) (l1 : Option Value) (l2 : Option Value) (a0 : Nat) (s : List Value) (h : am_H), am_E P 99 170 [l0, l1, l2] (.ref a0 :: s) h = (am_g1 h a0 9 25).bind (fun v => am_E P 99 173 [l0, l1, l2] (v :: s) h)) ∧
  (∀ (P : Nat × Nat) (l0 : Option Value) (l1 : Option Value) (l2 : Option Value) (s : List Value) (h : am_H), am_E P 99 173 [l0, l1, l2] s h = am_E P 99 175 [l0, l1, l2] (.int (-6) :: s) h) ∧
  (∀ (P : Nat × Nat) (l0 : Option Value) (l1 : Option Value) (l2 : Option Value) (x0 : Int32) (x1 : Int32) (s : List Value) (h : am_H), am_E P 99 175 [l0, l1, l2] (.int x1 :: .int x0 :: s) h = if x0 = x1 then am_E P 99 196 [l0, l1, l2] s h else am_E P 99 178 [l0, l1, l2] s h) ∧
  (∀ (P : Nat × Nat) (l1 : Option Value) (l2 : Option Value) (a0 : Nat) (s : List Value) (h : am_H), am_E P 99 178 [some (.ref a0), l1, l2] s h = am_E P 99 179 [some (.ref a0), l1, l2] (.ref a0 :: s) h) ∧
  (∀ (P : Nat × Nat) (l1 : Option Value) (l2 : Option Value) (s : List Value) (h : am_H), am_E P 99 178 [some .null, l1, l2] s h = am_E P 99 179 [some .null, l1, l2] (.null :: s) h) ∧
  (∀ (P : Nat × Nat) (l0 : Option Value) (l1 : Option Value) (l2 : Option Value) (a0 : Nat) (s : List Value) (h : am_H), am_E P 99 179 [l0, l1, l2] (.ref a0 :: s) h = (am_g1 h a0 9 26).bind (fun v => am_E P 99 182 [l0, l1, l2] (v :: s) h)) ∧
  (∀ (P : Nat × Nat) (l1 : Option Value) (l2 : Option Value) (a0 : Nat) (s : List Value) (h : am_H), am_E P 99 182 [some (.ref a0), l1, l2] s h = am_E P 99 183 [some (.ref a0), l1, l2] (.ref a0 :: s) h) ∧
  (∀ (P : Nat × Nat) (l1 : Option Value) (l2 : Option Value) (s : List Value) (h : am_H), am_E P 99 182 [some .null, l1, l2] s h = am_E P 99 183 [some .null, l1, l2] (.null :: s) h) ∧
  (∀ (P : Nat × Nat) (l0 : Option Value) (l1 : Option Value) (l2 : Option Value) (a0 : Nat) (s : List Value) (h : am_H), am_E P 99 183 [l0, l1, l2] (.ref a0 :: s) h = (am_g1 h a0 9 27).bind (fun v => am_E P 99 186 [l0, l1, l2] (v :: s) h)) ∧
  (∀ (P : Nat × Nat) (l0 : Option Value) (l1 : Option Value) (l2 : Option Value) (s : List Value) (h : am_H), am_E P 99 186 [l0, l1, l2] s h = am_E P 99 187 [l0, l1, l2] (.int 1 :: s) h) ∧
  (∀ (P : Nat × Nat) (l0 : Option Value) (l1 : Option Value) (l2 : Option Value) (x0 : Int32) (x1 : Int32) (s : List Value) (h : am_H), am_E P 99 187 [l0, l1, l2] (.int x1 :: .int x0 :: s) h = am_E P 99 188 [l0, l1, l2] (.int (x0 - x1) :: s) h) ∧
  (∀ (P : Nat × Nat) (l0 : Option Value) (l1 : Option Value) (l2 : Option Value) (x0 : Int32) (a0 : Nat) (s : List Value) (h : am_H), am_E P 99 188 [l0, l1, l2] (.int x0 :: .ref a0 :: s) h = (am_iald h a0 x0).bind (fun v => am_E P 99 189 [l0, l1, l2] (.int v :: s) h)) ∧
  (∀ (P : Nat × Nat) (l1 : Option Value) (l2 : Option Value) (a0 : Nat) (s : List Value) (h : am_H), am_E P 99 189 [some (.ref a0), l1, l2] s h = am_E P 99 190 [some (.ref a0), l1, l2] (.ref a0 :: s) h) ∧
  (∀ (P : Nat × Nat) (l1 : Option Value) (l2 : Option Value) (s : List Value) (h : am_H), am_E P 99 189 [some .null, l1, l2] s h = am_E P 99 190 [some .null, l1, l2] (.null :: s) h) ∧
  (∀ (P : Nat × Nat) (l0 : Option Value) (l1 : Option Value) (l2 : Option Value) (a0 : Nat) (s : List Value) (h : am_H), am_E P 99 190 [l0, l1, l2] (.ref a0 :: s) h = (am_g1 h a0 9 25).bind (fun v => am_E P 99 193 [l0, l1, l2] (v :: s) h)) ∧
  (∀ (P : Nat × Nat) (l0 : Option Value) (l1 : Option Value) (l2 : Option Value) (x0 : Int32) (x1 : Int32) (s : List Value) (h : am_H), am_E P 99 193 [l0, l1, l2] (.int x1 :: .int x0 :: s) h = if x0 ≤ x1 then am_E P 99 209 [l0, l1, l2] s h else am_E P 99 196 [l0, l1, l2] s h) ∧
  (∀ (P : Nat × Nat) (l1 : Option Value) (l2 : Option Value) (a0 : Nat) (s : List Value) (h : am_H), am_E P 99 196 [some (.ref a0), l1, l2] s h = am_E P 99 197 [some (.ref a0), l1, l2] (.ref a0 :: s) h) ∧
  (∀ (P : Nat × Nat) (l1 : Option Value) (l2 : Option Value) (s : List Value) (h : am_H), am_E P 99 196 [some .null, l1, l2] s h = am_E P 99 197 [some .null, l1, l2] (.null :: s) h) ∧
  (∀ (P : Nat × Nat) (l0 : Option Value) (l1 : Option Value) (l2 : Option Value) (a0 : Nat) (s : List Value) (h : am_H), am_E P 99 197 [l0, l1, l2] (.ref a0 :: s) h = am_E P 99 198 [l0, l1, l2] (.ref a0 :: .ref a0 :: s) h) ∧
  (∀ (P : Nat × Nat) (l0 : Option Value) (l1 : Option Value) (l2 : Option Value) (a0 : Nat) (s : List Value) (h : am_H), am_E P 99 198 [l0, l1, l2] (.ref a0 :: s) h = (am_g1 h a0 9 27).bind (fun v => am_E P 99 201 [l0, l1, l2] (v :: s) h)) ∧
  (∀ (P : Nat × Nat) (l0 : Option Value) (l1 : Option Value) (l2 : Option Value) (s : List Value) (h : am_H), am_E P 99 201 [l0, l1, l2] s h = am_E P 99 202 [l0, l1, l2] (.int 1 :: s) h) ∧
  (∀ (P : Nat × Nat) (l0 : Option Value) (l1 : Option Value) (l2 : Option Value) (x0 : Int32) (x1 : Int32) (s : List Value) (h : am_H), am_E P 99 202 [l0, l1, l2] (.int x1 :: .int x0 :: s) h = am_E P 99 203 [l0, l1, l2] (.int (x0 - x1) :: s) h) ∧
  (∀ (P : Nat × Nat) (l0 : Option Value) (l1 : Option Value) (l2 : Option Value) (a0 : Nat) (x0 : Int32) (s : List Value) (h : am_H), am_E P 99 203 [l0, l1, l2] (.int x0 :: .ref a0 :: s) h = (am_p1 h a0 9 27 (.int x0)).bind (fun h => am_E P 99 206 [l0, l1, l2] s h)) ∧
  (∀ (P : Nat × Nat) (l0 : Option Value) (l1 : Option Value) (l2 : Option Value) (s : List Value) (h : am_H), am_E P 99 206 [l0, l1, l2] s h = am_E P 99 162 [l0, l1, l2] s h) ∧
  (∀ (P : Nat × Nat) (l1 : Option Value) (l2 : Option Value) (a0 : Nat) (s : List Value) (h : am_H), am_E P 99 209 [some (.ref a0), l1, l2] s h = am_E P 99 210 [some (.ref a0), l1, l2] (.ref a0 :: s) h) ∧
  (∀ (P : Nat × Nat) (l1 : Option Value) (l2 : Option Value) (s : List Value) (h : am_H), am_E P 99 209 [some .null, l1, l2] s h = am_E P 99 210 [some .null, l1, l2] (.null :: s) h) ∧
  (∀ (P : Nat × Nat) (l0 : Option Value) (l1 : Option Value) (l2 : Option Value) (s : List Value) (h : am_H), am_E P 99 210 [l0, l1, l2] s h = am_E P 99 211 [l0, l1, l2] (.int 0 :: s) h) ∧
  (∀ (P : Nat × Nat) (l0 : Option Value) (l1 : Option Value) (l2 : Option Value) (a0 : Nat) (x0 : Int32) (s : List Value) (h : am_H), am_E P 99 211 [l0, l1, l2] (.int x0 :: .ref a0 :: s) h = (am_p1 h a0 9 33 (.int x0)).bind (fun h => am_E P 99 214 [l0, l1, l2] s h)) ∧
  (∀ (P : Nat × Nat) (l0 : Option Value) (l1 : Option Value) (l2 : Option Value) (s : List Value) (h : am_H), am_E P 99 214 [l0, l1, l2] s h = am_E P 99 215 [l0, l1, l2] (.int 0 :: s) h) ∧
  (∀ (P : Nat × Nat) (l0 : Option Value) (l1 : Option Value) (l2 : Option Value) (x0 : Int32) (s : List Value) (h : am_H), am_E P 99 215 [l0, l1, l2] (.int x0 :: s) h = am_E P 99 216 [l0, some (.int x0), l2] s h) ∧
  (∀ (P : Nat × Nat) (l1 : Option Value) (l2 : Option Value) (a0 : Nat) (s : List Value) (h : am_H), am_E P 99 217 [some (.ref a0), l1, l2] s h = am_E P 99 218 [some (.ref a0), l1, l2] (.ref a0 :: s) h) ∧
  (∀ (P : Nat × Nat) (l1 : Option Value) (l2 : Option Value) (s : List Value) (h : am_H), am_E P 99 217 [some .null, l1, l2] s h = am_E P 99 218 [some .null, l1, l2] (.null :: s) h) ∧
  (∀ (P : Nat × Nat) (l0 : Option Value) (l1 : Option Value) (l2 : Option Value) (a0 : Nat) (s : List Value) (h : am_H), am_E P 99 218 [l0, l1, l2] (.ref a0 :: s) h = (am_g1 h a0 9 0).bind (fun v => am_E P 99 221 [l0, l1, l2] (v :: s) h)) ∧
  (∀ (P : Nat × Nat) (l0 : Option Value) (l1 : Option Value) (l2 : Option Value) (x0 : Int32) (x1 : Int32) (s : List Value) (h : am_H), am_E P 99 221 [l0, l1, l2] (.int x1 :: .int x0 :: s) h = if x1 ≤ x0 then am_E P 99 255 [l0, l1, l2] s h else am_E P 99 224 [l0, l1, l2] s h) ∧
  (∀ (P : Nat × Nat) (l1 : Option Value) (l2 : Option Value) (a0 : Nat) (s : List Value) (h : am_H), am_E P 99 224 [some (.ref a0), l1, l2] s h = am_E P 99 225 [some (.ref a0), l1, l2] (.ref a0 :: s) h) ∧
  (∀ (P : Nat × Nat) (l1 : Option Value) (l2 : Option Value) (s : List Value) (h : am_H), am_E P 99 224 [some .null, l1, l2] s h = am_E P 99 225 [some .null, l1, l2] (.null :: s) h) ∧
  (∀ (P : Nat × Nat) (l0 : Option Value) (l2 : Option Value) (x0 : Int32) (s : List Value) (h : am_H), am_E P 99 225 [l0, some (.int x0), l2] s h = am_E P 99 226 [l0, some (.int x0), l2] (.int x0 :: s) h) ∧
  (∀ (P : Nat × Nat) (l1 : Option Value) (l2 : Option Value) (a0 : Nat) (s : List Value) (h : am_H), am_E P 99 226 [some (.ref a0), l1, l2] s h = am_E P 99 227 [some (.ref a0), l1, l2] (.ref a0 :: s) h) ∧
  (∀ (P : Nat × Nat) (l1 : Option Value) (l2 : Option Value) (s : List Value) (h : am_H), am_E P 99 226 [some .null, l1, l2] s h = am_E P 99 227 [some .null, l1, l2] (.null :: s) h) ∧
  (∀ (P : Nat × Nat) (l0 : Option Value) (l1 : Option Value) (l2 : Option Value) (a0 : Nat) (s : List Value) (h : am_H), am_E P 99 227 [l0, l1, l2] (.ref a0 :: s) h = (am_g1 h a0 9 25).bind (fun v => am_E P 99 230 [l0, l1, l2] (v :: s) h)) ∧
  (∀ (P : Nat × Nat) (l0 : Option Value) (l1 : Option Value) (l2 : Option Value) (s : List Value) (h : am_H), am_E P 99 230 [l0, l1, l2] s h = am_E P 99 232 [l0, l1, l2] (.int (-6) :: s) h) ∧
  (∀ (P : Nat × Nat) (l0 : Option Value) (l1 : Option Value) (l2 : Option Value) (x0 : Int32) (x1 : Int32) (s : List Value) (h : am_H), am_E P 99 232 [l0, l1, l2] (.int x1 :: .int x0 :: s) h = if x0 = x1 then am_E P 99 235 [l0, l1, l2] s h else am_E P 99 239 [l0, l1, l2] s h) ∧
  (∀ (P : Nat × Nat) (l0 : Option Value) (l1 : Option Value) (l2 : Option Value) (s : List Value) (h : am_H), am_E P 99 235 [l0, l1, l2] s h = am_E P 99 236 [l0, l1, l2] (.int 0 :: s) h) ∧
  (∀ (P : Nat × Nat) (l0 : Option Value) (l1 : Option Value) (l2 : Option Value) (s : List Value) (h : am_H), am_E P 99 236 [l0, l1, l2] s h = am_E P 99 245 [l0, l1, l2] s h) ∧
  (∀ (P : Nat × Nat) (l1 : Option Value) (l2 : Option Value) (a0 : Nat) (s : List Value) (h : am_H), am_E P 99 239 [some (.ref a0), l1, l2] s h = am_E P 99 240 [some (.ref a0), l1, l2] (.ref a0 :: s) h) ∧
  (∀ (P : Nat × Nat) (l1 : Option Value) (l2 : Option Value) (s : List Value) (h : am_H), am_E P 99 239 [some .null, l1, l2] s h = am_E P 99 240 [some .null, l1, l2] (.null :: s) h) ∧
  (∀ (P : Nat × Nat) (l0 : Option Value) (l1 : Option Value) (l2 : Option Value) (a0 : Nat) (s : List Value) (h : am_H), am_E P 99 240 [l0, l1, l2] (.ref a0 :: s) h = (am_g1 h a0 9 25).bind (fun v => am_E P 99 243 [l0, l1, l2] (v :: s) h)) ∧
  (∀ (P : Nat × Nat) (l0 : Option Value) (l1 : Option Value) (l2 : Option Value) (s : List Value) (h : am_H), am_E P 99 243 [l0, l1, l2] s h = am_E P 99 244 [l0, l1, l2] (.int 1 :: s) h) ∧
  (∀ (P : Nat × Nat) (l0 : Option Value) (l1 : Option Value) (l2 : Option Value) (x0 : Int32) (x1 : Int32) (s : List Value) (h : am_H), am_E P 99 244 [l0, l1, l2] (.int x1 :: .int x0 :: s) h = am_E P 99 245 [l0, l1, l2] (.int (x0 + x1) :: s) h) ∧
  (∀ (P : Nat × Nat) (l0 : Option Value) (l1 : Option Value) (l2 : Option Value) (a0 : Nat) (x0 : Int32) (x1 : Int32) (h : am_H), am_E P 99 245 [l0, l1, l2] [.int x1, .int x0, .ref a0] h = if am_cls h a0 = some 9 then (am_E P 94 0 [some (.ref a0), some (.int x0), some (.int x1), none, none, none] [] h).bind (fun q => am_E P 99 248 [l0, l1, l2] (q.1.toList ++ []) q.2) else none) ∧
  (∀ (P : Nat × Nat) (l0 : Option Value) (l1 : Option Value) (l2 : Option Value) (x0 : Int32) (s : List Value) (h : am_H), am_E P 99 248 [l0, l1, l2] (.int x0 :: s) h = am_E P 99 249 [l0, l1, some (.int x0)] s h) ∧
  (∀ (P : Nat × Nat) (l0 : Option Value) (l2 : Option Value) (x0 : Int32) (s : List Value) (h : am_H), am_E P 99 249 [l0, some (.int x0), l2] s h = am_E P 99 252 [l0, some (.int (x0 + 1)), l2] s h) ∧
  (∀ (P : Nat × Nat) (l0 : Option Value) (l1 : Option Value) (l2 : Option Value) (s : List Value) (h : am_H), am_E P 99 252 [l0, l1, l2] s h = am_E P 99 216 [l0, l1, l2] s h) ∧
  (∀ (P : Nat × Nat) (l1 : Option Value) (l2 : Option Value) (a0 : Nat) (s : List Value) (h : am_H), am_E P 99 255 [some (.ref a0), l1, l2] s h = am_E P 99 256 [some (.ref a0), l1, l2] (.ref a0 :: s) h) ∧
  (∀ (P : Nat × Nat) (l1 : Option Value) (l2 : Option Value) (s : List Value) (h : am_H), am_E P 99 255 [some .null, l1, l2] s h = am_E P 99 256 [some .null, l1, l2] (.null :: s) h) ∧
  (∀ (P : Nat × Nat) (l0 : Option Value) (l1 : Option Value) (l2 : Option Value) (a0 : Nat) (h : am_H), am_E P 99 256 [l0, l1, l2] [.ref a0] h = if am_cls h a0 = some 9 then (am_E P 90 0 [some (.ref a0), none, none, none, none, none] [] h).bind (fun q => am_E P 99 259 [l0, l1, l2] (q.1.toList ++ []) q.2) else none) ∧
  (∀ (P : Nat × Nat) (l0 : Option Value) (l1 : Option Value) (l2 : Option Value) (x0 : Int32) (s : List Value) (h : am_H), am_E P 99 259 [l0, l1, l2] (.int x0 :: s) h = am_E P 99 260 [l0, some (.int x0), l2] s h) ∧
  (∀ (P : Nat × Nat) (l1 : Option Value) (l2 : Option Value) (a0 : Nat) (s : List Value) (h : am_H), am_E P 99 260 [some (.ref a0), l1, l2] s h = am_E P 99 261 [some (.ref a0), l1, l2] (.ref a0 :: s) h) ∧
  (∀ (P : Nat × Nat) (l1 : Option Value) (l2 : Option Value) (s : List Value) (h : am_H), am_E P 99 260 [some .null, l1, l2] s h = am_E P 99 261 [some .null, l1, l2] (.null :: s) h) ∧
  (∀ (P : Nat × Nat) (l0 : Option Value) (l1 : Option Value) (l2 : Option Value) (a0 : Nat) (s : List Value) (h : am_H), am_E P 99 261 [l0, l1, l2] (.ref a0 :: s) h = (am_g1 h a0 9 33).bind (fun v => am_E P 99 264 [l0, l1, l2] (v :: s) h)) ∧
  (∀ (P : Nat × Nat) (l0 : Option Value) (l1 : Option Value) (l2 : Option Value) (x0 : Int32) (h : am_H), am_E P 99 264 [l0, l1, l2] [.int x0] h = some (some (.int x0), h)) :=
  ⟨fun _ _ _ _ _ _ => er_go rfl rfl,
  fun _ _ _ _ _ => er_go rfl rfl,
  fun _ _ _ _ _ _ => er_go rfl rfl,
  fun _ _ _ _ _ _ _ _ => er_put1 rfl rfl,
  fun _ _ _ _ _ _ => er_go rfl rfl,
  fun _ _ _ _ _ => er_go rfl rfl,
  fun _ _ _ _ _ _ => er_go rfl rfl,
  fun _ _ _ _ _ _ _ _ => er_putZ rfl rfl,
  fun _ _ _ _ _ _ => er_go rfl rfl,
  fun _ _ _ _ _ => er_go rfl rfl,
  fun _ _ _ _ _ _ => er_callV rfl rfl rfl rfl,
  fun _ _ _ _ _ _ => er_go rfl rfl,
  fun _ _ _ _ _ => er_go rfl rfl,
  fun _ _ _ _ _ _ => er_go rfl rfl,
  fun _ _ _ _ _ _ _ _ => er_put1 rfl rfl,
  fun _ _ _ _ _ _ => er_go rfl rfl,
  fun _ _ _ _ _ => er_go rfl rfl,
  fun _ _ _ _ _ _ => er_go rfl rfl,
  fun _ _ _ _ _ _ _ _ => er_putZ rfl rfl,
  fun _ _ _ _ _ _ => er_go rfl rfl,
  fun _ _ _ _ _ _ _ => er_go rfl rfl,
  fun _ _ _ _ _ _ => er_go rfl rfl,
  fun _ _ _ _ _ => er_go rfl rfl,
  fun _ _ _ _ _ _ _ => er_get1 rfl,
  fun _ _ _ _ _ _ _ _ => er_ic_ge rfl,
  fun _ _ _ _ _ _ => er_go rfl rfl,
  fun _ _ _ _ _ => er_go rfl rfl,
  fun _ _ _ _ _ _ _ => er_get1 rfl,
  fun _ _ _ _ _ _ => er_go rfl rfl,
  fun _ _ _ _ _ _ => er_go rfl rfl,
  fun _ _ _ _ _ _ _ _ _ => er_iast rfl,
  fun _ _ _ _ _ _ => er_go rfl rfl,
  fun _ _ _ _ _ _ => er_go rfl rfl,
  fun _ _ _ _ _ _ => er_go rfl rfl,
  fun _ _ _ _ _ _ _ => er_go rfl rfl,
  fun _ _ _ _ _ _ => er_go rfl rfl,
  fun _ _ _ _ _ => er_go rfl rfl,
  fun _ _ _ _ _ _ _ => er_get1 rfl,
  fun _ _ _ _ _ _ _ _ => er_ic_ge rfl,
  fun _ _ _ _ _ _ => er_go rfl rfl,
  fun _ _ _ _ _ => er_go rfl rfl,
  fun _ _ _ _ _ _ _ => er_get1 rfl,
  fun _ _ _ _ _ _ => er_go rfl rfl,
  fun _ _ _ _ _ _ _ _ => er_iald rfl,
  fun _ _ _ _ _ _ => er_go rfl rfl,
  fun _ _ _ _ _ _ _ _ => er_ic_eq rfl,
  fun _ _ _ _ _ _ => er_go rfl rfl,
  fun _ _ _ _ _ => er_go rfl rfl,
  fun _ _ _ _ _ _ _ => er_get1 rfl,
  fun _ _ _ _ _ _ => er_go rfl rfl,
  fun _ _ _ _ _ _ _ _ => er_iald rfl,
  fun _ _ _ _ _ _ => er_go rfl rfl,
  fun _ _ _ _ _ _ _ _ => er_ic_ne rfl,
  fun _ _ _ _ _ _ => er_go rfl rfl,
  fun _ _ _ _ _ => er_go rfl rfl,
  fun _ _ _ _ _ _ => er_go rfl rfl,
  fun _ _ _ _ _ => er_go rfl rfl,
  fun _ _ _ _ _ _ _ => er_get1 rfl,
  fun _ _ _ _ _ _ => er_go rfl rfl,
  fun _ _ _ _ _ => er_go rfl rfl,
  fun _ _ _ _ _ _ _ => er_get1 rfl,
  fun _ _ _ _ _ _ => er_go rfl rfl,
  fun _ _ _ _ _ _ _ _ => er_iald rfl,
  fun _ _ _ _ _ _ _ _ => er_callS rfl rfl rfl,
  fun _ _ _ _ _ _ _ _ => er_put1 rfl rfl,
  fun _ _ _ _ _ _ => er_go rfl rfl,
  fun _ _ _ _ _ => er_go rfl rfl,
  fun _ _ _ _ _ _ _ => er_go rfl rfl,
  fun _ _ _ _ _ _ _ => er_get1 rfl,
  fun _ _ _ _ _ _ => er_go rfl rfl,
  fun _ _ _ _ _ => er_go rfl rfl,
  fun _ _ _ _ _ _ _ => er_get1 rfl,
  fun _ _ _ _ _ _ => er_go rfl rfl,
  fun _ _ _ _ _ _ _ _ => er_iald rfl,
  fun _ _ _ _ _ _ => er_go rfl rfl,
  fun _ _ _ _ _ _ _ _ => er_ic_ne rfl,
  fun _ _ _ _ _ _ => er_go rfl rfl,
  fun _ _ _ _ _ _ => er_go rfl rfl,
  fun _ _ _ _ _ _ => er_go rfl rfl,
  fun _ _ _ _ _ _ _ _ => er_go rfl rfl,
  fun _ _ _ _ _ _ _ _ => er_putZ rfl rfl,
  fun _ _ _ _ _ _ => er_go rfl rfl,
  fun _ _ _ _ _ _ => er_go rfl rfl,
  fun _ _ _ _ _ => er_go rfl rfl,
  fun _ _ _ _ _ _ _ => er_get1 rfl,
  fun _ _ _ _ _ _ => er_go rfl rfl,
  fun _ _ _ _ _ => er_go rfl rfl,
  fun _ _ _ _ _ _ _ => er_get1 rfl,
  fun _ _ _ _ _ _ => er_go rfl rfl,
  fun _ _ _ _ _ _ _ _ => er_iald rfl,
  fun _ _ _ _ _ _ => er_go rfl rfl,
  fun _ _ _ _ _ => er_go rfl rfl,
  fun _ _ _ _ _ _ _ => er_get1 rfl,
  fun _ _ _ _ _ _ => er_go rfl rfl,
  fun _ _ _ _ _ => er_go rfl rfl,
  fun _ _ _ _ _ _ _ => er_get1 rfl,
  fun _ _ _ _ _ _ => er_go rfl rfl,
  fun _ _ _ _ _ _ _ _ => er_iald rfl,
  fun _ _ _ _ _ _ _ _ => er_iald rfl,
  fun _ _ _ _ _ _ => er_go rfl rfl,
  fun _ _ _ _ _ => er_go rfl rfl,
  fun _ _ _ _ _ _ _ => er_get1 rfl,
  fun _ _ _ _ _ _ => er_go rfl rfl,
  fun _ _ _ _ _ _ _ _ => er_iald rfl,
  fun _ _ _ _ _ _ => er_go rfl rfl,
  fun _ _ _ _ _ _ _ _ => er_go rfl rfl,
  fun _ _ _ _ _ _ _ _ _ => er_callS rfl rfl rfl,
  fun _ _ _ _ _ _ _ _ _ => er_iast rfl,
  fun _ _ _ _ _ _ => er_go rfl rfl,
  fun _ _ _ _ _ _ => er_go rfl rfl,
  fun _ _ _ _ _ _ _ => er_get1 rfl,
  fun _ _ _ _ _ _ _ => er_if_le rfl,
  fun _ _ _ _ _ _ => er_go rfl rfl,
  fun _ _ _ _ _ => er_go rfl rfl,
  fun _ _ _ _ _ _ _ => er_get1 rfl,
  fun _ _ _ _ _ _ => er_go rfl rfl,
  fun _ _ _ _ _ _ _ _ => er_ic_eq rfl,
  fun _ _ _ _ _ _ => er_go rfl rfl,
  fun _ _ _ _ _ => er_go rfl rfl,
  fun _ _ _ _ _ _ _ => er_get1 rfl,
  fun _ _ _ _ _ _ => er_go rfl rfl,
  fun _ _ _ _ _ => er_go rfl rfl,
  fun _ _ _ _ _ _ _ => er_get1 rfl,
  fun _ _ _ _ _ _ => er_go rfl rfl,
  fun _ _ _ _ _ _ _ _ => er_go rfl rfl,
  fun _ _ _ _ _ _ _ _ => er_iald rfl,
  fun _ _ _ _ _ _ => er_go rfl rfl,
  fun _ _ _ _ _ => er_go rfl rfl,
  fun _ _ _ _ _ _ _ => er_get1 rfl,
  fun _ _ _ _ _ _ _ _ => er_ic_le rfl,
  fun _ _ _ _ _ _ => er_go rfl rfl,
  fun _ _ _ _ _ => er_go rfl rfl,
  fun _ _ _ _ _ _ _ => er_go rfl rfl,
  fun _ _ _ _ _ _ _ => er_get1 rfl,
  fun _ _ _ _ _ _ => er_go rfl rfl,
  fun _ _ _ _ _ _ _ _ => er_go rfl rfl,
  fun _ _ _ _ _ _ _ _ => er_put1 rfl rfl,
  fun _ _ _ _ _ _ => er_go rfl rfl,
  fun _ _ _ _ _ _ => er_go rfl rfl,
  fun _ _ _ _ _ => er_go rfl rfl,
  fun _ _ _ _ _ _ => er_go rfl rfl,
  fun _ _ _ _ _ _ _ _ => er_put1 rfl rfl,
  fun _ _ _ _ _ _ => er_go rfl rfl,
  fun _ _ _ _ _ _ _ => er_go rfl rfl,
  fun _ _ _ _ _ _ => er_go rfl rfl,
  fun _ _ _ _ _ => er_go rfl rfl,
  fun _ _ _ _ _ _ _ => er_get1 rfl,
  fun _ _ _ _ _ _ _ _ => er_ic_ge rfl,
  fun _ _ _ _ _ _ => er_go rfl rfl,
  fun _ _ _ _ _ => er_go rfl rfl,
  fun _ _ _ _ _ _ => er_go rfl rfl,
  fun _ _ _ _ _ _ => er_go rfl rfl,
  fun _ _ _ _ _ => er_go rfl rfl,
  fun _ _ _ _ _ _ _ => er_get1 rfl,
  fun _ _ _ _ _ _ => er_go rfl rfl,
  fun _ _ _ _ _ _ _ _ => er_ic_ne rfl,
  fun _ _ _ _ _ _ => er_go rfl rfl,
  fun _ _ _ _ _ _ => er_go rfl rfl,
  fun _ _ _ _ _ _ => er_go rfl rfl,
  fun _ _ _ _ _ => er_go rfl rfl,
  fun _ _ _ _ _ _ _ => er_get1 rfl,
  fun _ _ _ _ _ _ => er_go rfl rfl,
  fun _ _ _ _ _ _ _ _ => er_go rfl rfl,
  fun _ _ _ _ _ _ _ _ => er_callV rfl rfl rfl rfl,
  fun _ _ _ _ _ _ _ => er_go rfl rfl,
  fun _ _ _ _ _ _ => er_go rfl rfl,
  fun _ _ _ _ _ _ => er_go rfl rfl,
  fun _ _ _ _ _ _ => er_go rfl rfl,
  fun _ _ _ _ _ => er_go rfl rfl,
  fun _ _ _ _ _ _ => er_callV rfl rfl rfl rfl,
  fun _ _ _ _ _ _ _ => er_go rfl rfl,
  fun _ _ _ _ _ _ => er_go rfl rfl,
  fun _ _ _ _ _ => er_go rfl rfl,
  fun _ _ _ _ _ _ _ => er_get1 rfl,
  fun _ _ _ _ _ _ => er_ret rfl rfl⟩
set_option maxRecDepth 100000 in
theorem hd99_28 : ∀ (P : Nat × Nat) (l0 : Option Value) (l2 : Option Value) (x0 : Int32) (s : List Value) (h : am_H), am_E P 99 28 [l0, some (.int x0), l2] s h = am_E P 99 29 [l0, some (.int x0), l2] (.int x0 :: s) h := fun _ _ _ _ _ _ => er_go rfl rfl
set_option maxRecDepth 100000 in
theorem hd99_51 : ∀ (P : Nat × Nat) (l0 : Option Value) (l2 : Option Value) (x0 : Int32) (s : List Value) (h : am_H), am_E P 99 51 [l0, some (.int x0), l2] s h = am_E P 99 52 [l0, some (.int x0), l2] (.int x0 :: s) h := fun _ _ _ _ _ _ => er_go rfl rfl
set_option maxRecDepth 100000 in
theorem hd99_162 : ∀ (P : Nat × Nat) (l1 : Option Value) (l2 : Option Value) (a0 : Nat) (s : List Value) (h : am_H), am_E P 99 162 [some (.ref a0), l1, l2] s h = am_E P 99 163 [some (.ref a0), l1, l2] (.ref a0 :: s) h := fun _ _ _ _ _ _ => er_go rfl rfl
set_option maxRecDepth 100000 in
theorem hd99_162n : ∀ (P : Nat × Nat) (l1 : Option Value) (l2 : Option Value) (s : List Value) (h : am_H), am_E P 99 162 [some .null, l1, l2] s h = am_E P 99 163 [some .null, l1, l2] (.null :: s) h := fun _ _ _ _ _ => er_go rfl rfl
set_option maxRecDepth 100000 in
theorem hd99_216 : ∀ (P : Nat × Nat) (l0 : Option Value) (l2 : Option Value) (x0 : Int32) (s : List Value) (h : am_H), am_E P 99 216 [l0, some (.int x0), l2] s h = am_E P 99 217 [l0, some (.int x0), l2] (.int x0 :: s) h := fun _ _ _ _ _ _ => er_go rfl rfl
