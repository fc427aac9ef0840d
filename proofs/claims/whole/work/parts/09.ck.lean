/-! What is checked of each instruction of the tables, and of each method. -/
def sn_mem (w : Jvm.Cond) : Bool := decide (w ∈ lw_tbl) && goodWord w
theorem sn_mem_in {w : Jvm.Cond} (h : sn_mem w = true) : w ∈ sn_gw := by
  simp only [sn_mem, Bool.and_eq_true, decide_eq_true_eq] at h
  exact sn_inM h.1 h.2
def sn_len (i : Instr) : Nat := match i with
  | .bipush _ => 2
  | .sipush _ => 3
  | .ldc _ => 2
  | .ldc2_w _ => 3
  | .iload _ => 2
  | .aload _ => 2
  | .istore _ => 2
  | .astore _ => 2
  | .iinc .. => 3
  | .goto _ => 3
  | .ifCond .. => 3
  | .if_icmp .. => 3
  | .if_acmp .. => 3
  | .ifnull _ => 3
  | .ifnonnull _ => 3
  | .getfield _ => 3
  | .putfield _ => 3
  | .getstatic _ => 3
  | .new _ => 3
  | .newarray _ => 2
  | .anewarray _ => 3
  | .checkcast _ => 3
  | .invokestatic _ => 3
  | .invokespecial _ => 3
  | .invokevirtual _ => 3
  | _ => 1
def sn_notMH (c : String) : Bool := decide (c ≠ "java/lang/invoke/MethodHandle") && decide (c ≠ "java/lang/invoke/VarHandle")
/-- a callee: room, arguments -/
def sn_ckC (M N : am_M) (na ml : Nat) : Bool := decide (N.2.2.2.2.1 + 1 ≤ M.2.2.2.2.1) && (decide (8 + (N.2.2.1 + 11) + N.2.2.2.2.2 ≤ M.2.2.2.2.2) && (decide ((parseMethodDescriptor N.1.desc).map (fun d => d.parameters.length) = some na) && (decide (ml ≤ N.2.2.1) && (sn_notMH N.1.cls && sn_mem (.initialized N.1.cls)))))
def sn_ckS (M : am_M) (idx : Nat) (x : am_X) : Bool := match p_ms[x.1]? with
  | none => false
  | some N => sn_ckC M N x.2.1 x.2.1 && (sn_mem (.static N.1) && (if x.2.2.2.1 = 0 then sn_mem (.methodLink M.1.cls idx N.1) else match lw_tbl[x.2.2.2.2]? with
    | some (.methodLinkNest o i z _) => decide (o = M.1.cls) && (decide (i = idx) && decide (z = N.1))
    | _ => false))
def sn_ckI (M : am_M) (idx : Nat) (x : am_X) : Bool := match p_ms[x.1]? with
  | none => false
  | some N => sn_ckC M N x.2.1 (x.2.1 + 1) && (sn_mem (.instanceMethod N.1) && (decide (N.1.name = "<init>") && (decide (N.2.2.2.1 = none) && (if x.2.2.2.1 = 2 then sn_mem (.methodLink M.1.cls idx N.1) else match lw_tbl[x.2.2.2.2]? with
    | some (.methodLinkNest o i z _) => decide (o = M.1.cls) && (decide (i = idx) && decide (z = N.1))
    | _ => false))))
def sn_ckV (M : am_M) (idx : Nat) (x : am_X) : Bool := match p_ms[x.1]? with
  | none => false
  | some N => sn_ckC M N x.2.1 (x.2.1 + 1) && (sn_mem (.instanceMethod N.1) && (if x.2.2.2.1 = 4 then sn_mem (.methodLink M.1.cls idx N.1) && x.2.2.1.all (fun q => match p_cl[q.1]? with
      | some r => decide (r.1 = N.1.cls) && sn_mem (.selects r.1 N.1 N.1)
      | none => false)
    else match lw_tbl[x.2.2.2.2]? with
    | some (.methodLink o i z) => decide (o = M.1.cls) && (decide (i = idx) && (goodWord (.methodLink o i z) && (decide (N.1 = ⟨N.1.cls, z.name, z.desc⟩) && (sn_mem (.sameMethod z.cls N.1.cls z.name z.desc) && x.2.2.1.all (fun q => match p_cl[q.1]? with
      | some r => sn_mem (.selects r.1 z N.1)
      | none => false)))))
    | _ => false))
def sn_ck (M : am_M) (pc : Nat) (i : Instr) (x : am_X) : Bool := match i with
  | .goto off => decide ((pc : Int) + off = (x.1 : Int))
  | .ifCond _ off => decide ((pc : Int) + off = (x.1 : Int))
  | .if_icmp _ off => decide ((pc : Int) + off = (x.1 : Int))
  | .if_acmp _ off => decide ((pc : Int) + off = (x.1 : Int))
  | .ifnull off => decide ((pc : Int) + off = (x.1 : Int))
  | .ifnonnull off => decide ((pc : Int) + off = (x.1 : Int))
  | .tableswitch d lo hi offs => decide (lo = 0) && (decide ((pc : Int) + d = (x.1 : Int)) && (decide (hi + 1 = (offs.size : Int)) && (decide (x.2.2.1.length = offs.size) && (decide (offs.size ≤ 1000) && (List.range offs.size).all (fun j => match offs[j]?, x.2.2.1[j]? with
    | some o, some q => decide (q.1 = j) && decide ((pc : Int) + o = (q.2 : Int))
    | _, _ => false)))))
  | .getfield idx => sn_getf M.1.cls idx x.2.2.1 x.2.2.2.2
  | .putfield idx => sn_putf M.1.cls M.1.name idx x.2.2.1 x.2.2.2.2
  | .getstatic idx => sn_mem (.fieldLink M.1.cls idx "java/util/ArrayList" "DEFAULTCAPACITY_EMPTY_ELEMENTDATA" "[Ljava/lang/Object;")
  | .new idx => match p_cl[x.1]? with
    | some r => sn_mem (.classLink M.1.cls idx r.1) && (sn_mem (.instantiable r.1 r.2.2) && sn_mem (.initialized r.1))
    | none => false
  | .newarray t => decide (t = .int)
  | .anewarray idx => sn_mem (.classLink M.1.cls idx "java/lang/Object")
  | .checkcast idx => match p_cl[x.1]? with
    | some r => sn_mem (.classLink M.1.cls idx r.1)
    | none => false
  | .ldc idx => if x.1 = 1 then sn_mem (.classLink M.1.cls idx "[Ljava/lang/Object;") else sn_mem (.constant M.1.cls idx (Int32.ofInt x.2.2.2.1))
  | .ldc2_w idx => sn_mem (.constantLong M.1.cls idx (Int64.ofInt x.2.2.2.1))
  | .lreturn => decide (M.2.2.2.1 = some .long)
  | .areturn => match M.2.2.2.1 with
    | some (.object _) => true
    | some (.array _) => true
    | _ => false
  | .return_ => decide (M.2.2.2.1 = none)
  | .invokestatic idx => if x.2.2.2.1 = 11 then sn_mem (.methodLink M.1.cls idx arraycopyName) && (decide (1 ≤ M.2.2.2.2.1) && decide (40 ≤ M.2.2.2.2.2)) else sn_ckS M idx x
  | .invokespecial idx => if x.2.2.2.1 = 10 then sn_mem (.methodLink M.1.cls idx Lib.objectInit) && (decide (1 ≤ M.2.2.2.2.1) && decide (20 ≤ M.2.2.2.2.2)) else sn_ckI M idx x
  | .invokevirtual idx => if x.2.2.2.1 = 13 then sn_mem (.methodLink M.1.cls idx sn_gC) && (decide (1 ≤ M.2.2.2.2.1) && decide (40 ≤ M.2.2.2.2.2)) else sn_ckV M idx x
  | _ => true
def sn_isSw (i : Instr) : Bool := match i with
  | .tableswitch .. => true
  | _ => false
def sn_row (M : am_M) (r : Nat × Instr × Nat × am_X) : Bool := decide (decode M.2.1 r.1 = .ok (r.2.1, r.2.2.1)) && ((sn_isSw r.2.1 || decide (r.2.2.1 = sn_len r.2.1)) && sn_ck M r.1 r.2.1 r.2.2.2)
