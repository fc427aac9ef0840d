/-! The abstract machine: cells by address, a deterministic step, its limit. A cell: an int array, an array of references, an object (class number, fields), the script (read only), ArrayList's empty array (true) or nothing known (false). -/
abbrev am_C : Type := (Nat × (Nat → Int32)) ⊕ (Nat × (Nat → Option Nat)) ⊕ (Nat × List Value) ⊕ (Nat × (Nat → Int32)) ⊕ Bool
/-- heap: size, slots used, cells -/
abbrev am_H : Type := Nat × Nat × (Nat → am_C)
abbrev am_L : Type := List (Option Value)
abbrev am_X : Type := Nat × Nat × List (Nat × Nat) × Int × Nat
abbrev am_R : Type := Option Value × am_H
/-- what an instruction does: an answer; go on; call -/
abbrev am_A : Type := am_R ⊕ (Nat × am_L × List Value × am_H) ⊕ (Nat × List Value × List Value)
abbrev am_T : Type := List (Nat × Instr × Nat × am_X)
abbrev ac_I (n : Nat) (f : Nat → Int32) : am_C := .inl (n, f)
abbrev ac_R (n : Nat) (f : Nat → Option Nat) : am_C := .inr (.inl (n, f))
abbrev ac_O (ci : Nat) (fs : List Value) : am_C := .inr (.inr (.inl (ci, fs)))
abbrev ac_S (n : Nat) (f : Nat → Int32) : am_C := .inr (.inr (.inr (.inl (n, f))))
abbrev ac_E : am_C := .inr (.inr (.inr (.inr true)))
abbrev ac_N : am_C := .inr (.inr (.inr (.inr false)))
def ah_put (h : am_H) (a : Nat) (c : am_C) : am_H := (h.1, h.2.1, va_up h.2.2 a c)
def ah_new (h : am_H) (k : Nat) (c : am_C) : am_H := (h.1 + 1, h.2.1 + k, va_up h.2.2 h.1 c)
def am_ix (i : Int32) (n : Nat) : Option Nat := if 0 ≤ i.toInt ∧ i.toInt < n then some i.toNatClampNeg else none
def am_okf (ty : FieldType) (v : Value) : Bool := match ty with
  | .int => match v with
    | .int _ => true
    | _ => false
  | .boolean => match v with
    | .int x => x == 0 || x == 1
    | _ => false
  | .object _ => match v with
    | .ref _ => true
    | .null => true
    | _ => false
  | .array _ => match v with
    | .ref _ => true
    | .null => true
    | _ => false
  | _ => false
def am_okr (rt : Option FieldType) (x : Int32) : Bool := match rt with
  | some .int => true
  | some .boolean => x == 0 || x == 1
  | _ => false
def am_rf (v : Value) : Option (Option Nat) := match v with
  | .null => some none
  | .ref a => some (some a)
  | _ => none
def am_gf (h : am_H) (a : Nat) (al : List (Nat × Nat)) : Option Value := match h.2.2 a with
  | .inr (.inr (.inl (ci, fs))) => match al.lookup ci with
    | some k => fs[k]?
    | none => none
  | _ => none
def am_pf (ty : Nat → Nat → FieldType) (h : am_H) (a : Nat) (al : List (Nat × Nat)) (v : Value) : Option am_H := match h.2.2 a with
  | .inr (.inr (.inl (ci, fs))) => match al.lookup ci with
    | some k => if k < fs.length ∧ am_okf (ty ci k) v = true then some (ah_put h a (ac_O ci (fs.set k v))) else none
    | none => none
  | _ => none
def am_iald (h : am_H) (a : Nat) (i : Int32) : Option Int32 := match h.2.2 a with
  | .inl (n, f) => (am_ix i n).map f
  | .inr (.inr (.inr (.inl (n, f)))) => (am_ix i n).map f
  | _ => none
def am_iast (h : am_H) (a : Nat) (i x : Int32) : Option am_H := match h.2.2 a with
  | .inl (n, f) => (am_ix i n).map (fun k => ah_put h a (ac_I n (upd f k x)))
  | _ => none
def am_aald (h : am_H) (a : Nat) (i : Int32) : Option (Option Nat) := match h.2.2 a with
  | .inr (.inl (n, f)) => (am_ix i n).map f
  | _ => none
/-- only an object goes into an array of references -/
def am_aast (h : am_H) (a : Nat) (i : Int32) (v : Nat) : Option am_H := match h.2.2 a with
  | .inr (.inl (n, f)) => match h.2.2 v with
    | .inr (.inr (.inl (ci, _))) => if ci = 0 then none else (am_ix i n).map (fun k => ah_put h a (ac_R n (va_up f k (some v))))
    | _ => none
  | _ => none
def am_alen (h : am_H) (a : Nat) : Option Int32 := match h.2.2 a with
  | .inl (n, _) => some (Int32.ofNat n)
  | .inr (.inl (n, _)) => some (Int32.ofNat n)
  | .inr (.inr (.inr (.inl (n, _)))) => some (Int32.ofNat n)
  | .inr (.inr (.inr (.inr true))) => some 0
  | _ => none
def am_cls (h : am_H) (a : Nat) : Option Nat := match h.2.2 a with
  | .inr (.inr (.inl (ci, _))) => some ci
  | _ => none
/-- an array is copied from place 0 on to place 0 of another -/
def am_copy (h : am_H) (a b : Nat) (n : Int32) : Option am_H := if a = b ∨ n.toInt < 0 then none else match h.2.2 a with
  | .inl (na, f) => match h.2.2 b with
    | .inl (nb, g) => if n.toInt ≤ na ∧ n.toInt ≤ nb then some (ah_put h b (ac_I nb (va_cpy f g 0 0 n.toNatClampNeg))) else none
    | _ => none
  | .inr (.inl (na, f)) => match h.2.2 b with
    | .inr (.inl (nb, g)) => if n.toInt ≤ na ∧ n.toInt ≤ nb then some (ah_put h b (ac_R nb (va_cpy f g 0 0 n.toNatClampNeg))) else none
    | _ => none
  | _ => none
def am_c1 (v : Value) : Bool := match v with
  | .int _ => true
  | .ref _ => true
  | .null => true
  | _ => false
def am_pop : Nat → List Value → List Value → Option (List Value × List Value)
  | 0, acc, st => some (acc, st)
  | n + 1, acc, v :: st => am_pop n (v :: acc) st
  | _ + 1, _, [] => none
def am_sw (x : Int32) (d : Nat) : List (Nat × Nat) → Nat
  | [] => d
  | (j, t) :: r => if x = Int32.ofNat j then t else am_sw x d r
def am_cond (c : ClassFile.Cond) (x y : Int32) : Bool := match c with
  | .eq => decide (x = y)
  | .ne => decide (¬ x = y)
  | .lt => decide (x < y)
  | .ge => decide (y ≤ x)
  | .gt => decide (y < x)
  | .le => decide (x ≤ y)
abbrev am_go (pc : Nat) (ls : am_L) (st : List Value) (h : am_H) : Option am_A := some (.inr (.inl (pc, ls, st, h)))
def am_ld (ls : am_L) (k : Nat) : Option Value := match ls[k]? with
  | some (some v) => some v
  | _ => none
def am_st (ls : am_L) (k : Nat) (v : Value) : Option am_L := if k < ls.length then some (ls.set k (some v)) else none
def am_br {α : Type} (c : ClassFile.Cond) (x y : Int32) (a b : α) : α := match c with
  | .eq => if x = y then a else b
  | .ne => if x = y then b else a
  | .lt => if x < y then a else b
  | .ge => if y ≤ x then a else b
  | .gt => if y < x then a else b
  | .le => if x ≤ y then a else b
def am_abr {α : Type} (c : ClassFile.ACond) (x y : Option Nat) (a b : α) : α := match c with
  | .eq => if x = y then a else b
  | .ne => if x = y then b else a
/-- one instruction. P: the empty array's address, the mirror's; ty: types of fields; df: fields at birth; rt: the method's return type -/
def am_act (P : Nat × Nat) (ty : Nat → Nat → FieldType) (df : Nat → List Value) (rt : Option FieldType) (pc : Nat) (i : Instr) (x : am_X) (ls : am_L) (st : List Value) (h : am_H) : Option am_A :=
  match i with
  | .iconst k => am_go (pc + 1) ls (.int (Int32.ofInt k) :: st) h
  | .bipush k => am_go (pc + 2) ls (.int (Int8.ofInt k).toInt32 :: st) h
  | .sipush k => am_go (pc + 3) ls (.int (Int16.ofInt k).toInt32 :: st) h
  | .aconst_null => am_go (pc + 1) ls (.null :: st) h
  | .ldc _ => if x.1 = 1 then am_go (pc + 2) ls (.ref P.2 :: st) h else am_go (pc + 2) ls (.int (Int32.ofInt x.2.2.2.1) :: st) h
  | .ldc2_w _ => am_go (pc + 3) ls (.long (Int64.ofInt x.2.2.2.1) :: st) h
  | .iload_n k => match am_ld ls k with
    | some (.int v) => am_go (pc + 1) ls (.int v :: st) h
    | _ => none
  | .iload k => match am_ld ls k with
    | some (.int v) => am_go (pc + 2) ls (.int v :: st) h
    | _ => none
  | .aload_n k => match am_ld ls k with
    | some (.ref v) => am_go (pc + 1) ls (.ref v :: st) h
    | some .null => am_go (pc + 1) ls (.null :: st) h
    | _ => none
  | .aload k => match am_ld ls k with
    | some (.ref v) => am_go (pc + 2) ls (.ref v :: st) h
    | some .null => am_go (pc + 2) ls (.null :: st) h
    | _ => none
  | .istore_n k => match st with
    | .int v :: r => match am_st ls k (.int v) with
      | some ls' => am_go (pc + 1) ls' r h
      | none => none
    | _ => none
  | .istore k => match st with
    | .int v :: r => match am_st ls k (.int v) with
      | some ls' => am_go (pc + 2) ls' r h
      | none => none
    | _ => none
  | .astore_n k => match st with
    | .ref v :: r => match am_st ls k (.ref v) with
      | some ls' => am_go (pc + 1) ls' r h
      | none => none
    | .null :: r => match am_st ls k .null with
      | some ls' => am_go (pc + 1) ls' r h
      | none => none
    | _ => none
  | .astore k => match st with
    | .ref v :: r => match am_st ls k (.ref v) with
      | some ls' => am_go (pc + 2) ls' r h
      | none => none
    | .null :: r => match am_st ls k .null with
      | some ls' => am_go (pc + 2) ls' r h
      | none => none
    | _ => none
  | .iinc k n => match am_ld ls k with
    | some (.int v) => match am_st ls k (.int (v + Int32.ofInt n)) with
      | some ls' => am_go (pc + 3) ls' st h
      | none => none
    | _ => none
  | .iadd => match st with
    | .int b :: .int a :: r => am_go (pc + 1) ls (.int (a + b) :: r) h
    | _ => none
  | .isub => match st with
    | .int b :: .int a :: r => am_go (pc + 1) ls (.int (a - b) :: r) h
    | _ => none
  | .imul => match st with
    | .int b :: .int a :: r => am_go (pc + 1) ls (.int (a * b) :: r) h
    | _ => none
  | .iand => match st with
    | .int b :: .int a :: r => am_go (pc + 1) ls (.int (a &&& b) :: r) h
    | _ => none
  | .ior => match st with
    | .int b :: .int a :: r => am_go (pc + 1) ls (.int (a ||| b) :: r) h
    | _ => none
  | .ishl => match st with
    | .int b :: .int a :: r => am_go (pc + 1) ls (.int (a <<< (b &&& 31)) :: r) h
    | _ => none
  | .ishr => match st with
    | .int b :: .int a :: r => am_go (pc + 1) ls (.int (a >>> (b &&& 31)) :: r) h
    | _ => none
  | .i2l => match st with
    | .int a :: r => am_go (pc + 1) ls (.long a.toInt64 :: r) h
    | _ => none
  | .lcmp => match st with
    | .long b :: .long a :: r => am_go (pc + 1) ls (.int (lg_cmp a b) :: r) h
    | _ => none
  | .dup => match st with
    | .int a :: r => am_go (pc + 1) ls (.int a :: .int a :: r) h
    | .ref a :: r => am_go (pc + 1) ls (.ref a :: .ref a :: r) h
    | _ => none
  | .dup_x1 => match st with
    | .int a :: .ref b :: r => am_go (pc + 1) ls (.int a :: .ref b :: .int a :: r) h
    | .ref a :: .ref b :: r => am_go (pc + 1) ls (.ref a :: .ref b :: .ref a :: r) h
    | _ => none
  | .dup2 => match st with
    | .int a :: .ref b :: r => am_go (pc + 1) ls (.int a :: .ref b :: .int a :: .ref b :: r) h
    | _ => none
  | .pop => match st with
    | .int _ :: r => am_go (pc + 1) ls r h
    | _ => none
  | .goto _ => am_go x.1 ls st h
  | .ifCond c _ => match st with
    | .int a :: r => am_br c a 0 (am_go x.1 ls r h) (am_go (pc + 3) ls r h)
    | _ => none
  | .if_icmp c _ => match st with
    | .int b :: .int a :: r => am_br c a b (am_go x.1 ls r h) (am_go (pc + 3) ls r h)
    | _ => none
  | .if_acmp c _ => match st with
    | b :: a :: r => match am_rf a, am_rf b with
      | some a', some b' => am_abr c a' b' (am_go x.1 ls r h) (am_go (pc + 3) ls r h)
      | _, _ => none
    | _ => none
  | .ifnull _ => match st with
    | .null :: r => am_go x.1 ls r h
    | .ref _ :: r => am_go (pc + 3) ls r h
    | _ => none
  | .ifnonnull _ => match st with
    | .null :: r => am_go (pc + 3) ls r h
    | .ref _ :: r => am_go x.1 ls r h
    | _ => none
  | .tableswitch .. => match st with
    | .int a :: r => am_go (am_sw a x.1 x.2.2.1) ls r h
    | _ => none
  | .getfield _ => match st with
    | .ref a :: r => match am_gf h a x.2.2.1 with
      | some v => am_go (pc + 3) ls (v :: r) h
      | none => none
    | _ => none
  | .putfield _ => match st with
    | v :: .ref a :: r => match am_pf ty h a x.2.2.1 v with
      | some h' => am_go (pc + 3) ls r h'
      | none => none
    | _ => none
  | .getstatic _ => am_go (pc + 3) ls (.ref P.1 :: st) h
  | .new _ => am_go (pc + 3) ls (.ref h.1 :: st) (ah_new h (df x.1).length (ac_O x.1 (df x.1)))
  | .newarray _ => match st with
    | .int n :: r => if n.toInt < 0 ∨ 1000000 < n.toInt then none else am_go (pc + 2) ls (.ref h.1 :: r) (ah_new h n.toNatClampNeg (ac_I n.toNatClampNeg (fun _ => 0)))
    | _ => none
  | .anewarray _ => match st with
    | .int n :: r => if n.toInt < 0 ∨ 1000000 < n.toInt then none else am_go (pc + 3) ls (.ref h.1 :: r) (ah_new h n.toNatClampNeg (ac_R n.toNatClampNeg (fun _ => none)))
    | _ => none
  | .iaload => match st with
    | .int i :: .ref a :: r => match am_iald h a i with
      | some v => am_go (pc + 1) ls (.int v :: r) h
      | none => none
    | _ => none
  | .iastore => match st with
    | .int v :: .int i :: .ref a :: r => match am_iast h a i v with
      | some h' => am_go (pc + 1) ls r h'
      | none => none
    | _ => none
  | .aaload => match st with
    | .int i :: .ref a :: r => match am_aald h a i with
      | some v => am_go (pc + 1) ls (va_rf v :: r) h
      | none => none
    | _ => none
  | .aastore => match st with
    | .ref v :: .int i :: .ref a :: r => match am_aast h a i v with
      | some h' => am_go (pc + 1) ls r h'
      | none => none
    | _ => none
  | .arraylength => match st with
    | .ref a :: r => match am_alen h a with
      | some n => am_go (pc + 1) ls (.int n :: r) h
      | none => none
    | _ => none
  | .checkcast _ => match st with
    | .null :: r => am_go (pc + 3) ls (.null :: r) h
    | .ref a :: r => if am_cls h a = some x.1 then am_go (pc + 3) ls (.ref a :: r) h else none
    | _ => none
  | .ireturn => match st with
    | [.int v] => if am_okr rt v = true then some (.inl (some (.int v), h)) else none
    | _ => none
  | .lreturn => match st with
    | [.long v] => some (.inl (some (.long v), h))
    | _ => none
  | .areturn => match st with
    | [.ref v] => some (.inl (some (.ref v), h))
    | [.null] => some (.inl (some .null, h))
    | _ => none
  | .return_ => match st with
    | [] => some (.inl (none, h))
    | _ => none
  | .invokestatic _ => if x.2.2.2.1 = 11 then (match st with
      | .int n :: .int d :: .ref b :: .int s :: .ref a :: r => if d = 0 ∧ s = 0 ∧ r.length ≤ 4 then (match am_copy h a b n with
        | some h' => am_go (pc + 3) ls r h'
        | none => none) else none
      | _ => none) else match am_pop x.2.1 [] st with
    | some (as, r) => if (Nat.ble r.length 4 && as.all am_c1) = true then some (.inr (.inr (x.1, as, r))) else none
    | none => none
  | .invokespecial _ => if x.2.2.2.1 = 10 then (match st with
      | .ref _ :: r => if r.length ≤ 4 then am_go (pc + 3) ls r h else none
      | _ => none) else match am_pop x.2.1 [] st with
    | some (as, .ref a :: r) => if (Nat.ble r.length 4 && as.all am_c1) = true then some (.inr (.inr (x.1, .ref a :: as, r))) else none
    | _ => none
  | .invokevirtual _ => if x.2.2.2.1 = 13 then (match st with
      | .ref a :: r => match h.2.2 a with
        | .inr (.inl _) => if r.length ≤ 4 then am_go (pc + 3) ls (.ref P.2 :: r) h else none
        | _ => none
      | _ => none) else match am_pop x.2.1 [] st with
    | some (as, .ref a :: r) => match am_cls h a with
      | some ci => match x.2.2.1.lookup ci with
        | some _ => if (Nat.ble r.length 4 && as.all am_c1) = true then some (.inr (.inr (x.1, .ref a :: as, r))) else none
        | none => none
      | none => none
    | _ => none
  | _ => none
def am_ini (as : List Value) (n : Nat) : am_L := as.map some ++ List.replicate (n - as.length) none
