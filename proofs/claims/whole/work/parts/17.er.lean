/-! The kinds of rows of am_E. -/
def am_g1 (h : am_H) (a ci k : Nat) : Option Value := match h.2.2 a with
  | .inr (.inr (.inl (c, fs))) => if c = ci then fs[k]? else none
  | _ => none
def am_gR (h : am_H) (a k : Nat) : Option Value := match h.2.2 a with
  | .inr (.inr (.inl (c, fs))) => if c = 2 ∨ c = 3 then fs[k]? else none
  | _ => none
def am_p1 (h : am_H) (a ci k : Nat) (v : Value) : Option am_H := match h.2.2 a with
  | .inr (.inr (.inl (c, fs))) => if c = ci ∧ k < fs.length then some (ah_put h a (ac_O ci (fs.set k v))) else none
  | _ => none
def am_pR (h : am_H) (a k : Nat) (v : Value) : Option am_H := match h.2.2 a with
  | .inr (.inr (.inl (c, fs))) => if (c = 2 ∨ c = 3) ∧ k < fs.length then some (ah_put h a (ac_O c (fs.set k v))) else none
  | _ => none
def am_isR (h : am_H) (a : Nat) : Bool := match h.2.2 a with
  | .inr (.inl _) => true
  | _ => false
theorem am_gf_1 (h : am_H) (a ci k : Nat) : am_gf h a [(ci, k)] = am_g1 h a ci k := by
  rcases hc : h.2.2 a with q | q | ⟨c, fs⟩ | q | q <;> simp only [am_gf, am_g1, hc]
  by_cases hq : c = ci
  · subst hq; simp [List.lookup_cons]
  · have : (c == ci) = false := by simpa using hq
    simp [List.lookup_cons, this, hq]
theorem am_gf_R (h : am_H) (a k : Nat) : am_gf h a [(2, k), (3, k)] = am_gR h a k := by
  rcases hc : h.2.2 a with q | q | ⟨c, fs⟩ | q | q <;> simp only [am_gf, am_gR, hc]
  by_cases hq : c = 2
  · subst hq; simp [List.lookup_cons]
  · by_cases hq3 : c = 3
    · subst hq3; simp [List.lookup_cons]
    · have h2 : (c == 2) = false := by simpa using hq
      have h3 : (c == 3) = false := by simpa using hq3
      simp [List.lookup_cons, h2, h3, hq, hq3]
theorem am_pf_1 (h : am_H) (a ci k : Nat) (v : Value) (hok : am_okf (p_ty ci k) v = true) : am_pf p_ty h a [(ci, k)] v = am_p1 h a ci k v := by
  rcases hc : h.2.2 a with q | q | ⟨c, fs⟩ | q | q <;> simp only [am_pf, am_p1, hc]
  by_cases hq : c = ci
  · subst hq; simp [List.lookup_cons, hok]
  · have : (c == ci) = false := by simpa using hq
    simp [List.lookup_cons, this, hq]
theorem am_pf_0 (h : am_H) (a ci k : Nat) (v : Value) (hok : am_okf (p_ty ci k) v = false) : am_pf p_ty h a [(ci, k)] v = none := by
  rcases hc : h.2.2 a with q | q | ⟨c, fs⟩ | q | q <;> simp only [am_pf, hc]
  by_cases hq : c = ci
  · subst hq; simp [List.lookup_cons, hok]
  · have : (c == ci) = false := by simpa using hq
    simp [List.lookup_cons, this]
theorem am_pf_R (h : am_H) (a k : Nat) (v : Value) (h2 : am_okf (p_ty 2 k) v = true) (h3 : am_okf (p_ty 3 k) v = true) : am_pf p_ty h a [(2, k), (3, k)] v = am_pR h a k v := by
  rcases hc : h.2.2 a with q | q | ⟨c, fs⟩ | q | q <;> simp only [am_pf, am_pR, hc]
  by_cases hq : c = 2
  · subst hq; simp [List.lookup_cons, h2]
  · by_cases hq3 : c = 3
    · subst hq3; simp [List.lookup_cons, h3]
    · have e2 : (c == 2) = false := by simpa using hq
      have e3 : (c == 3) = false := by simpa using hq3
      simp [List.lookup_cons, e2, e3, hq, hq3]
section ER
variable {P : Nat × Nat} {mi pc n : Nat} {i : Instr} {x : am_X} {ls ls' : am_L} {st st' : List Value} {h h' : am_H}
theorem er_unf (hc : p_at mi pc = some (i, n, x)) : am_E P mi pc ls st h = (match am_act P p_ty p_df (p_rt mi) pc i x ls st h with
    | none => none
    | some (.inl r) => some r
    | some (.inr (.inl (pc', ls', st', h'))) => am_E P mi pc' ls' st' h'
    | some (.inr (.inr (cy, as, r))) => match am_E P cy 0 (am_ini as (p_ml cy)) [] h with
      | none => none
      | some (v, h') => am_E P mi (pc + 3) ls (v.toList ++ r) h') := by
  rw [am_E_eq]
  unfold am_step
  simp only [hc]
  generalize am_act P p_ty p_df (p_rt mi) pc i x ls st h = A
  rcases A with _ | (r | (q | ⟨cy, as, r⟩))
  · rfl
  · rfl
  · rfl
  · simp only
    cases am_E P cy 0 (am_ini as (p_ml cy)) [] h <;> rfl
theorem er_get1 {idx a ci k z1 z2 w : Nat} {z3 : Int} (hc : p_at mi pc = some (.getfield idx, n, (z1, z2, [(ci, k)], z3, w))) : am_E P mi pc ls (.ref a :: st) h = (am_g1 h a ci k).bind (fun v => am_E P mi (pc + 3) ls (v :: st) h) := by
  rw [er_unf hc, ← am_gf_1]
  unfold am_act
  simp only
  cases am_gf h a [(ci, k)] <;> rfl
theorem er_getR {idx a k z1 z2 w : Nat} {z3 : Int} (hc : p_at mi pc = some (.getfield idx, n, (z1, z2, [(2, k), (3, k)], z3, w))) : am_E P mi pc ls (.ref a :: st) h = (am_gR h a k).bind (fun v => am_E P mi (pc + 3) ls (v :: st) h) := by
  rw [er_unf hc, ← am_gf_R]
  unfold am_act
  simp only
  cases am_gf h a [(2, k), (3, k)] <;> rfl
theorem er_put1 {idx a ci k z1 z2 w : Nat} {z3 : Int} {v : Value} (hc : p_at mi pc = some (.putfield idx, n, (z1, z2, [(ci, k)], z3, w))) (hok : am_okf (p_ty ci k) v = true) : am_E P mi pc ls (v :: .ref a :: st) h = (am_p1 h a ci k v).bind (fun h => am_E P mi (pc + 3) ls st h) := by
  rw [er_unf hc, ← am_pf_1 _ _ _ _ _ hok]
  unfold am_act
  simp only
  cases am_pf p_ty h a [(ci, k)] v <;> rfl
theorem er_putR {idx a k z1 z2 w : Nat} {z3 : Int} {v : Value} (hc : p_at mi pc = some (.putfield idx, n, (z1, z2, [(2, k), (3, k)], z3, w))) (h2 : am_okf (p_ty 2 k) v = true) (h3 : am_okf (p_ty 3 k) v = true) : am_E P mi pc ls (v :: .ref a :: st) h = (am_pR h a k v).bind (fun h => am_E P mi (pc + 3) ls st h) := by
  rw [er_unf hc, ← am_pf_R _ _ _ _ h2 h3]
  unfold am_act
  simp only
  cases am_pf p_ty h a [(2, k), (3, k)] v <;> rfl
theorem er_putZ {idx a ci k z1 z2 w : Nat} {z3 : Int} {y : Int32} (hc : p_at mi pc = some (.putfield idx, n, (z1, z2, [(ci, k)], z3, w))) (ht : p_ty ci k = .boolean) : am_E P mi pc ls (.int y :: .ref a :: st) h = if y = 0 ∨ y = 1 then (am_p1 h a ci k (.int y)).bind (fun h => am_E P mi (pc + 3) ls st h) else none := by
  by_cases hy : y = 0 ∨ y = 1
  · rw [if_pos hy]
    exact er_put1 hc (by rw [ht]; unfold am_okf; simp only [Bool.or_eq_true, beq_iff_eq]; exact hy)
  · rw [if_neg hy, er_unf hc]
    unfold am_act
    simp only
    rw [am_pf_0]
    rw [ht]
    unfold am_okf
    simp only [Bool.or_eq_false_iff, beq_eq_false_iff_ne]
    exact ⟨fun e => hy (Or.inl e), fun e => hy (Or.inr e)⟩
theorem er_iald {a : Nat} {y : Int32} (hc : p_at mi pc = some (.iaload, n, x)) : am_E P mi pc ls (.int y :: .ref a :: st) h = (am_iald h a y).bind (fun v => am_E P mi (pc + 1) ls (.int v :: st) h) := by
  rw [er_unf hc]
  unfold am_act
  simp only
  cases am_iald h a y <;> rfl
theorem er_iast {a : Nat} {y z : Int32} (hc : p_at mi pc = some (.iastore, n, x)) : am_E P mi pc ls (.int z :: .int y :: .ref a :: st) h = (am_iast h a y z).bind (fun h => am_E P mi (pc + 1) ls st h) := by
  rw [er_unf hc]
  unfold am_act
  simp only
  cases am_iast h a y z <;> rfl
theorem er_aald {a : Nat} {y : Int32} (hc : p_at mi pc = some (.aaload, n, x)) : am_E P mi pc ls (.int y :: .ref a :: st) h = (am_aald h a y).bind (fun v => am_E P mi (pc + 1) ls (va_rf v :: st) h) := by
  rw [er_unf hc]
  unfold am_act
  simp only
  cases am_aald h a y <;> rfl
theorem er_aast {a z : Nat} {y : Int32} (hc : p_at mi pc = some (.aastore, n, x)) : am_E P mi pc ls (.ref z :: .int y :: .ref a :: st) h = (am_aast h a y z).bind (fun h => am_E P mi (pc + 1) ls st h) := by
  rw [er_unf hc]
  unfold am_act
  simp only
  cases am_aast h a y z <;> rfl
theorem er_alen {a : Nat} (hc : p_at mi pc = some (.arraylength, n, x)) : am_E P mi pc ls (.ref a :: st) h = (am_alen h a).bind (fun v => am_E P mi (pc + 1) ls (.int v :: st) h) := by
  rw [er_unf hc]
  unfold am_act
  simp only
  cases am_alen h a <;> rfl
theorem er_copy {idx a0 a1 z1 z2 w : Nat} {z4 : List (Nat × Nat)} {y : Int32} {rest : List Value} (hc : p_at mi pc = some (.invokestatic idx, n, (z1, z2, z4, 11, w))) (hr : Nat.ble rest.length 4 = true) : am_E P mi pc ls (.int y :: .int 0 :: .ref a1 :: .int 0 :: .ref a0 :: rest) h = (am_copy h a0 a1 y).bind (fun h => am_E P mi (pc + 3) ls rest h) := by
  have hr' : rest.length ≤ 4 := Nat.le_of_ble_eq_true hr
  rw [er_unf hc]
  unfold am_act
  simp only [if_true, hr', and_self]
  cases am_copy h a0 a1 y <;> rfl
theorem er_getC {idx a z1 z2 w : Nat} {z4 : List (Nat × Nat)} {rest : List Value} (hc : p_at mi pc = some (.invokevirtual idx, n, (z1, z2, z4, 13, w))) (hr : Nat.ble rest.length 4 = true) (_ : True = True) : am_E P mi pc ls (.ref a :: rest) h = if am_isR h a = true then am_E P mi (pc + 3) ls (.ref P.2 :: rest) h else none := by
  have hr' : rest.length ≤ 4 := Nat.le_of_ble_eq_true hr
  rw [er_unf hc]
  unfold am_act am_isR
  simp only [if_true, hr']
  rcases h.2.2 a with q | q | q <;> rfl
theorem er_newa {y : Int32} {ls' : am_L} {s : List Value} {h1 : am_H} {pc' : Nat} (hc : p_at mi pc = some (i, n, x)) (ha : am_act P p_ty p_df (p_rt mi) pc i x ls (.int y :: st) h = if y.toInt < 0 ∨ 1000000 < y.toInt then none else am_go pc' ls' s h1) : am_E P mi pc ls (.int y :: st) h = if y.toInt < 0 ∨ 1000000 < y.toInt then none else am_E P mi pc' ls' s h1 := by
  by_cases hy : y.toInt < 0 ∨ 1000000 < y.toInt
  · rw [if_pos hy] at ha ⊢; exact er_no hc ha
  · rw [if_neg hy] at ha ⊢; exact er_go hc ha
theorem er_cast {idx a ci : Nat} {z : Nat × List (Nat × Nat) × Int × Nat} (hc : p_at mi pc = some (.checkcast idx, n, (ci, z))) : am_E P mi pc ls (.ref a :: st) h = if am_cls h a = some ci then am_E P mi (pc + 3) ls (.ref a :: st) h else none := by
  by_cases hy : am_cls h a = some ci
  · rw [if_pos hy]
    exact er_go hc (by unfold am_act; simp only [hy, if_true])
  · rw [if_neg hy]
    exact er_no hc (by unfold am_act; simp only [hy, if_false])
theorem er_retZ {y : Int32} (hc : p_at mi pc = some (.ireturn, n, x)) (hr : p_rt mi = some .boolean) : am_E P mi pc ls [.int y] h = if y = 0 ∨ y = 1 then some (some (.int y), h) else none := by
  by_cases hy : y = 0 ∨ y = 1
  · rw [if_pos hy]
    exact er_ret hc (by unfold am_act; simp only [hr, am_okr]; rw [if_pos (by simpa using hy)])
  · rw [if_neg hy]
    exact er_no hc (by unfold am_act; simp only [hr, am_okr]; rw [if_neg (by simpa using hy)])
theorem er_callV {LS : am_L} {idx a ci cy z2 w : Nat} {kd : Int} {as r : List Value} (hc : p_at mi pc = some (.invokevirtual idx, n, (cy, z2, [(ci, 0)], kd, w))) (hp : am_pop z2 [] st = some (as, .ref a :: r)) (hk : (decide (kd = 13) || !(Nat.ble r.length 4 && as.all am_c1)) = false) (hi : am_ini (.ref a :: as) (p_ml cy) = LS) : am_E P mi pc ls st h = if am_cls h a = some ci then (am_E P cy 0 LS [] h).bind (fun q => am_E P mi (pc + 3) ls (q.1.toList ++ r) q.2) else none := by
  subst hi
  simp only [Bool.or_eq_false_iff, decide_eq_false_iff_not, Bool.not_eq_false'] at hk
  by_cases hy : am_cls h a = some ci
  · rw [if_pos hy]
    exact er_call hc (by unfold am_act; simp only [if_neg hk.1, hp, hy, List.lookup_cons, beq_self_eq_true, hk.2, if_true])
  · rw [if_neg hy]
    refine er_no hc ?_
    unfold am_act
    simp only [if_neg hk.1, hp]
    split
    · rename_i c hcc
      have : (c == ci) = false := by
        simp only [beq_eq_false_iff_ne]
        rintro rfl
        exact hy hcc
      simp [List.lookup_cons, this]
    · rfl
theorem er_callR {LS : am_L} {idx a cy z2 w : Nat} {kd : Int} {as r : List Value} (hc : p_at mi pc = some (.invokevirtual idx, n, (cy, z2, [(2, 0), (3, 0)], kd, w))) (hp : am_pop z2 [] st = some (as, .ref a :: r)) (hk : (decide (kd = 13) || !(Nat.ble r.length 4 && as.all am_c1)) = false) (hi : am_ini (.ref a :: as) (p_ml cy) = LS) : am_E P mi pc ls st h = if am_cls h a = some 2 ∨ am_cls h a = some 3 then (am_E P cy 0 LS [] h).bind (fun q => am_E P mi (pc + 3) ls (q.1.toList ++ r) q.2) else none := by
  subst hi
  simp only [Bool.or_eq_false_iff, decide_eq_false_iff_not, Bool.not_eq_false'] at hk
  by_cases hy : am_cls h a = some 2 ∨ am_cls h a = some 3
  · rw [if_pos hy]
    refine er_call hc ?_
    rcases hy with hy | hy
    · unfold am_act; simp only [if_neg hk.1, hp, hy, List.lookup_cons, beq_self_eq_true, hk.2, if_true]
    · have e32 : (3 == 2) = false := rfl
      unfold am_act; simp only [if_neg hk.1, hp, hy, List.lookup_cons, e32, beq_self_eq_true, hk.2, if_true]
  · rw [if_neg hy]
    refine er_no hc ?_
    unfold am_act
    simp only [if_neg hk.1, hp]
    split
    · rename_i c hcc
      have e2 : (c == 2) = false := by
        simp only [beq_eq_false_iff_ne]
        rintro rfl
        exact hy (Or.inl hcc)
      have e3 : (c == 3) = false := by
        simp only [beq_eq_false_iff_ne]
        rintro rfl
        exact hy (Or.inr hcc)
      simp [List.lookup_cons, e2, e3]
    · rfl
theorem er_callS {LS : am_L} {cy : Nat} {as r : List Value} (hc : p_at mi pc = some (i, n, x)) (ha : am_act P p_ty p_df (p_rt mi) pc i x ls st h = some (.inr (.inr (cy, as, r)))) (hi : am_ini as (p_ml cy) = LS) : am_E P mi pc ls st h = (am_E P cy 0 LS [] h).bind (fun q => am_E P mi (pc + 3) ls (q.1.toList ++ r) q.2) := by
  subst hi
  exact er_call hc ha
theorem er_swk (y : Int32) (d : Nat) (al : List (Nat × Nat)) (hc : p_at mi pc = some (i, n, x)) (ha : am_act P p_ty p_df (p_rt mi) pc i x ls (.int y :: st) h = am_go (am_sw y d al) ls st h) : am_E P mi pc ls (.int y :: st) h = am_E P mi (am_sw y d al) ls st h := er_go hc ha
def am_swE (f : Nat → Option am_R) (y : Int32) (d : Nat) : List (Nat × Nat) → Option am_R
  | [] => f d
  | (j, t) :: r => if y = Int32.ofNat j then f t else am_swE f y d r
theorem am_sw_E (f : Nat → Option am_R) (y : Int32) (d : Nat) : ∀ al : List (Nat × Nat), f (am_sw y d al) = am_swE f y d al := by
  intro al
  induction al with
  | nil => rfl
  | cons q al ih =>
    obtain ⟨j, t⟩ := q
    unfold am_sw am_swE
    by_cases hj : y = Int32.ofNat j
    · rw [if_pos hj, if_pos hj]
    · rw [if_neg hj, if_neg hj]; exact ih
theorem er_sw {y : Int32} {d : Nat} {al : List (Nat × Nat)} {u : Option am_R} (hc : p_at mi pc = some (i, n, x)) (ha : am_act P p_ty p_df (p_rt mi) pc i x ls (.int y :: st) h = am_go (am_sw y d al) ls st h) (hu : am_swE (fun t => am_E P mi t ls st h) y d al = u) : am_E P mi pc ls (.int y :: st) h = u := by
  rw [er_go hc ha, ← hu]
  exact am_sw_E (fun t => am_E P mi t ls st h) y d al
end ER
section ERB
variable {P : Nat × Nat} {mi pc n t : Nat} {ls : am_L} {st : List Value} {h : am_H} {off : Int} {z : Nat × List (Nat × Nat) × Int × Nat}
theorem er_if_eq {y : Int32} (hc : p_at mi pc = some (.ifCond .eq off, n, (t, z))) : am_E P mi pc ls (.int y :: st) h = if y = 0 then am_E P mi t ls st h else am_E P mi (pc + 3) ls st h := by
  by_cases hy : y = 0
  · rw [if_pos hy]; exact er_go hc (by unfold am_act am_br; simp only [if_pos hy])
  · rw [if_neg hy]; exact er_go hc (by unfold am_act am_br; simp only [if_neg hy])
theorem er_if_ne {y : Int32} (hc : p_at mi pc = some (.ifCond .ne off, n, (t, z))) : am_E P mi pc ls (.int y :: st) h = if y = 0 then am_E P mi (pc + 3) ls st h else am_E P mi t ls st h := by
  by_cases hy : y = 0
  · rw [if_pos hy]; exact er_go hc (by unfold am_act am_br; simp only [if_pos hy])
  · rw [if_neg hy]; exact er_go hc (by unfold am_act am_br; simp only [if_neg hy])
theorem er_if_lt {y : Int32} (hc : p_at mi pc = some (.ifCond .lt off, n, (t, z))) : am_E P mi pc ls (.int y :: st) h = if y < 0 then am_E P mi t ls st h else am_E P mi (pc + 3) ls st h := by
  by_cases hy : y < 0
  · rw [if_pos hy]; exact er_go hc (by unfold am_act am_br; simp only [if_pos hy])
  · rw [if_neg hy]; exact er_go hc (by unfold am_act am_br; simp only [if_neg hy])
theorem er_if_ge {y : Int32} (hc : p_at mi pc = some (.ifCond .ge off, n, (t, z))) : am_E P mi pc ls (.int y :: st) h = if 0 ≤ y then am_E P mi t ls st h else am_E P mi (pc + 3) ls st h := by
  by_cases hy : 0 ≤ y
  · rw [if_pos hy]; exact er_go hc (by unfold am_act am_br; simp only [if_pos hy])
  · rw [if_neg hy]; exact er_go hc (by unfold am_act am_br; simp only [if_neg hy])
theorem er_if_gt {y : Int32} (hc : p_at mi pc = some (.ifCond .gt off, n, (t, z))) : am_E P mi pc ls (.int y :: st) h = if 0 < y then am_E P mi t ls st h else am_E P mi (pc + 3) ls st h := by
  by_cases hy : 0 < y
  · rw [if_pos hy]; exact er_go hc (by unfold am_act am_br; simp only [if_pos hy])
  · rw [if_neg hy]; exact er_go hc (by unfold am_act am_br; simp only [if_neg hy])
theorem er_if_le {y : Int32} (hc : p_at mi pc = some (.ifCond .le off, n, (t, z))) : am_E P mi pc ls (.int y :: st) h = if y ≤ 0 then am_E P mi t ls st h else am_E P mi (pc + 3) ls st h := by
  by_cases hy : y ≤ 0
  · rw [if_pos hy]; exact er_go hc (by unfold am_act am_br; simp only [if_pos hy])
  · rw [if_neg hy]; exact er_go hc (by unfold am_act am_br; simp only [if_neg hy])
theorem er_ic_eq {y z : Int32} {zz : Nat × List (Nat × Nat) × Int × Nat} (hc : p_at mi pc = some (.if_icmp .eq off, n, (t, zz))) : am_E P mi pc ls (.int z :: .int y :: st) h = if y = z then am_E P mi t ls st h else am_E P mi (pc + 3) ls st h := by
  by_cases hy : y = z
  · rw [if_pos hy]; exact er_go hc (by unfold am_act am_br; simp only [if_pos hy])
  · rw [if_neg hy]; exact er_go hc (by unfold am_act am_br; simp only [if_neg hy])
theorem er_ic_ne {y z : Int32} {zz : Nat × List (Nat × Nat) × Int × Nat} (hc : p_at mi pc = some (.if_icmp .ne off, n, (t, zz))) : am_E P mi pc ls (.int z :: .int y :: st) h = if y = z then am_E P mi (pc + 3) ls st h else am_E P mi t ls st h := by
  by_cases hy : y = z
  · rw [if_pos hy]; exact er_go hc (by unfold am_act am_br; simp only [if_pos hy])
  · rw [if_neg hy]; exact er_go hc (by unfold am_act am_br; simp only [if_neg hy])
theorem er_ic_lt {y z : Int32} {zz : Nat × List (Nat × Nat) × Int × Nat} (hc : p_at mi pc = some (.if_icmp .lt off, n, (t, zz))) : am_E P mi pc ls (.int z :: .int y :: st) h = if y < z then am_E P mi t ls st h else am_E P mi (pc + 3) ls st h := by
  by_cases hy : y < z
  · rw [if_pos hy]; exact er_go hc (by unfold am_act am_br; simp only [if_pos hy])
  · rw [if_neg hy]; exact er_go hc (by unfold am_act am_br; simp only [if_neg hy])
theorem er_ic_ge {y z : Int32} {zz : Nat × List (Nat × Nat) × Int × Nat} (hc : p_at mi pc = some (.if_icmp .ge off, n, (t, zz))) : am_E P mi pc ls (.int z :: .int y :: st) h = if z ≤ y then am_E P mi t ls st h else am_E P mi (pc + 3) ls st h := by
  by_cases hy : z ≤ y
  · rw [if_pos hy]; exact er_go hc (by unfold am_act am_br; simp only [if_pos hy])
  · rw [if_neg hy]; exact er_go hc (by unfold am_act am_br; simp only [if_neg hy])
theorem er_ic_gt {y z : Int32} {zz : Nat × List (Nat × Nat) × Int × Nat} (hc : p_at mi pc = some (.if_icmp .gt off, n, (t, zz))) : am_E P mi pc ls (.int z :: .int y :: st) h = if z < y then am_E P mi t ls st h else am_E P mi (pc + 3) ls st h := by
  by_cases hy : z < y
  · rw [if_pos hy]; exact er_go hc (by unfold am_act am_br; simp only [if_pos hy])
  · rw [if_neg hy]; exact er_go hc (by unfold am_act am_br; simp only [if_neg hy])
theorem er_ic_le {y z : Int32} {zz : Nat × List (Nat × Nat) × Int × Nat} (hc : p_at mi pc = some (.if_icmp .le off, n, (t, zz))) : am_E P mi pc ls (.int z :: .int y :: st) h = if y ≤ z then am_E P mi t ls st h else am_E P mi (pc + 3) ls st h := by
  by_cases hy : y ≤ z
  · rw [if_pos hy]; exact er_go hc (by unfold am_act am_br; simp only [if_pos hy])
  · rw [if_neg hy]; exact er_go hc (by unfold am_act am_br; simp only [if_neg hy])
theorem er_ac_eq {a b : Nat} (hc : p_at mi pc = some (.if_acmp .eq off, n, (t, z))) : am_E P mi pc ls (.ref b :: .ref a :: st) h = if a = b then am_E P mi t ls st h else am_E P mi (pc + 3) ls st h := by
  by_cases hy : a = b
  · rw [if_pos hy]; exact er_go hc (by unfold am_act; simp only [am_rf]; unfold am_abr; simp only [hy, if_true])
  · rw [if_neg hy]; exact er_go hc (by unfold am_act; simp only [am_rf]; unfold am_abr; simp only [Option.some.injEq, hy, if_false])
theorem er_ac_ne {a b : Nat} (hc : p_at mi pc = some (.if_acmp .ne off, n, (t, z))) : am_E P mi pc ls (.ref b :: .ref a :: st) h = if a = b then am_E P mi (pc + 3) ls st h else am_E P mi t ls st h := by
  by_cases hy : a = b
  · rw [if_pos hy]; exact er_go hc (by unfold am_act; simp only [am_rf]; unfold am_abr; simp only [hy, if_true])
  · rw [if_neg hy]; exact er_go hc (by unfold am_act; simp only [am_rf]; unfold am_abr; simp only [Option.some.injEq, hy, if_false])
end ERB
