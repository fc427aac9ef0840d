section
-- ===== PART A: goes FIRST, ahead of the names: the tables' words, and 'selects' of the private methods out of them =====
/-- a private method of a class that the tables say can be made, by its rows of tables_1 -/
def lw_okq (q : MethodName × Nat) : Prop := (q.1.cls ≠ "java/lang/invoke/MethodHandle" ∧ q.1.cls ≠ "java/lang/invoke/VarHandle") ∧ Cond.instantiable q.1.cls q.2 ∈ tables_1 ∧ Cond.privateMethod q.1 ∈ tables_1 ∧ Cond.instanceMethod q.1 ∈ tables_1
theorem lw_p0 : lw_okq (⟨"java/util/ArrayList", "add", "(Ljava/lang/Object;[Ljava/lang/Object;I)V"⟩, 3) := ⟨⟨by decide +kernel, by decide +kernel⟩, List.mem_of_getElem? (i := 29) (by decide +kernel), List.mem_of_getElem? (i := 221) (by decide +kernel), List.mem_of_getElem? (i := 222) (by decide +kernel)⟩
theorem lw_p1 : lw_okq (⟨"java/util/ArrayList", "grow", "()[Ljava/lang/Object;"⟩, 3) := ⟨⟨by decide +kernel, by decide +kernel⟩, List.mem_of_getElem? (i := 29) (by decide +kernel), List.mem_of_getElem? (i := 225) (by decide +kernel), List.mem_of_getElem? (i := 226) (by decide +kernel)⟩
theorem lw_p2 : lw_okq (⟨"java/util/ArrayList", "grow", "(I)[Ljava/lang/Object;"⟩, 3) := ⟨⟨by decide +kernel, by decide +kernel⟩, List.mem_of_getElem? (i := 29) (by decide +kernel), List.mem_of_getElem? (i := 229) (by decide +kernel), List.mem_of_getElem? (i := 230) (by decide +kernel)⟩
theorem lw_p3 : lw_okq (⟨"TwoStepOutputs", "outputAt", "(I)LTwoStepOutputs$Output;"⟩, 9) := ⟨⟨by decide +kernel, by decide +kernel⟩, List.mem_of_getElem? (i := 21) (by decide +kernel), List.mem_of_getElem? (i := 276) (by decide +kernel), List.mem_of_getElem? (i := 277) (by decide +kernel)⟩
theorem lw_p4 : lw_okq (⟨"TwoStepOutputs", "refusalOfBarrier", "(I)I"⟩, 9) := ⟨⟨by decide +kernel, by decide +kernel⟩, List.mem_of_getElem? (i := 21) (by decide +kernel), List.mem_of_getElem? (i := 305) (by decide +kernel), List.mem_of_getElem? (i := 306) (by decide +kernel)⟩
theorem lw_p5 : lw_okq (⟨"TwoStepOutputs", "greatestMark", "()I"⟩, 9) := ⟨⟨by decide +kernel, by decide +kernel⟩, List.mem_of_getElem? (i := 21) (by decide +kernel), List.mem_of_getElem? (i := 313) (by decide +kernel), List.mem_of_getElem? (i := 314) (by decide +kernel)⟩
theorem lw_p6 : lw_okq (⟨"TwoStepOutputs", "partsAfterBarrier", "()I"⟩, 9) := ⟨⟨by decide +kernel, by decide +kernel⟩, List.mem_of_getElem? (i := 21) (by decide +kernel), List.mem_of_getElem? (i := 322) (by decide +kernel), List.mem_of_getElem? (i := 323) (by decide +kernel)⟩
theorem lw_p7 : lw_okq (⟨"TwoStepOutputs", "makeBarrier", "(I)I"⟩, 9) := ⟨⟨by decide +kernel, by decide +kernel⟩, List.mem_of_getElem? (i := 21) (by decide +kernel), List.mem_of_getElem? (i := 326) (by decide +kernel), List.mem_of_getElem? (i := 327) (by decide +kernel)⟩
theorem lw_p8 : lw_okq (⟨"TwoStepOutputs", "closeOpenPart", "(LTwoStepOutputs$Output;I)Z"⟩, 9) := ⟨⟨by decide +kernel, by decide +kernel⟩, List.mem_of_getElem? (i := 21) (by decide +kernel), List.mem_of_getElem? (i := 330) (by decide +kernel), List.mem_of_getElem? (i := 331) (by decide +kernel)⟩
theorem lw_p9 : lw_okq (⟨"TwoStepOutputs", "writeRecord", "(IIIII)Z"⟩, 9) := ⟨⟨by decide +kernel, by decide +kernel⟩, List.mem_of_getElem? (i := 21) (by decide +kernel), List.mem_of_getElem? (i := 379) (by decide +kernel), List.mem_of_getElem? (i := 380) (by decide +kernel)⟩
theorem lw_p10 : lw_okq (⟨"TwoStepOutputs", "mayAct", "()Z"⟩, 9) := ⟨⟨by decide +kernel, by decide +kernel⟩, List.mem_of_getElem? (i := 21) (by decide +kernel), List.mem_of_getElem? (i := 383) (by decide +kernel), List.mem_of_getElem? (i := 384) (by decide +kernel)⟩
theorem lw_p11 : lw_okq (⟨"TwoStepOutputs", "emptyOpenParts", "()V"⟩, 9) := ⟨⟨by decide +kernel, by decide +kernel⟩, List.mem_of_getElem? (i := 21) (by decide +kernel), List.mem_of_getElem? (i := 387) (by decide +kernel), List.mem_of_getElem? (i := 388) (by decide +kernel)⟩
theorem lw_p12 : lw_okq (⟨"TwoStepOutputs", "keepMark", "(II)Z"⟩, 9) := ⟨⟨by decide +kernel, by decide +kernel⟩, List.mem_of_getElem? (i := 21) (by decide +kernel), List.mem_of_getElem? (i := 435) (by decide +kernel), List.mem_of_getElem? (i := 436) (by decide +kernel)⟩
theorem lw_p13 : lw_okq (⟨"TwoStepOutputs", "showAll", "()I"⟩, 9) := ⟨⟨by decide +kernel, by decide +kernel⟩, List.mem_of_getElem? (i := 21) (by decide +kernel), List.mem_of_getElem? (i := 439) (by decide +kernel), List.mem_of_getElem? (i := 440) (by decide +kernel)⟩
theorem lw_p14 : lw_okq (⟨"TwoStepOutputs", "showOutput", "(LTwoStepOutputs$Output;)I"⟩, 9) := ⟨⟨by decide +kernel, by decide +kernel⟩, List.mem_of_getElem? (i := 21) (by decide +kernel), List.mem_of_getElem? (i := 443) (by decide +kernel), List.mem_of_getElem? (i := 444) (by decide +kernel)⟩
theorem lw_p15 : lw_okq (⟨"TwoStepOutputs", "showPart", "(LTwoStepOutputs$Output;LTwoStepOutputs$Part;)I"⟩, 9) := ⟨⟨by decide +kernel, by decide +kernel⟩, List.mem_of_getElem? (i := 21) (by decide +kernel), List.mem_of_getElem? (i := 451) (by decide +kernel), List.mem_of_getElem? (i := 452) (by decide +kernel)⟩
def lw_privs_1 : List (MethodName × Nat) := [(⟨"java/util/ArrayList", "add", "(Ljava/lang/Object;[Ljava/lang/Object;I)V"⟩, 3), (⟨"java/util/ArrayList", "grow", "()[Ljava/lang/Object;"⟩, 3), (⟨"java/util/ArrayList", "grow", "(I)[Ljava/lang/Object;"⟩, 3), (⟨"TwoStepOutputs", "outputAt", "(I)LTwoStepOutputs$Output;"⟩, 9), (⟨"TwoStepOutputs", "refusalOfBarrier", "(I)I"⟩, 9), (⟨"TwoStepOutputs", "greatestMark", "()I"⟩, 9), (⟨"TwoStepOutputs", "partsAfterBarrier", "()I"⟩, 9), (⟨"TwoStepOutputs", "makeBarrier", "(I)I"⟩, 9), (⟨"TwoStepOutputs", "closeOpenPart", "(LTwoStepOutputs$Output;I)Z"⟩, 9), (⟨"TwoStepOutputs", "writeRecord", "(IIIII)Z"⟩, 9), (⟨"TwoStepOutputs", "mayAct", "()Z"⟩, 9), (⟨"TwoStepOutputs", "emptyOpenParts", "()V"⟩, 9), (⟨"TwoStepOutputs", "keepMark", "(II)Z"⟩, 9), (⟨"TwoStepOutputs", "showAll", "()I"⟩, 9), (⟨"TwoStepOutputs", "showOutput", "(LTwoStepOutputs$Output;)I"⟩, 9), (⟨"TwoStepOutputs", "showPart", "(LTwoStepOutputs$Output;LTwoStepOutputs$Part;)I"⟩, 9)]
theorem lw_r1 : ∀ q ∈ lw_privs_1, lw_okq q := List.forall_mem_cons.mpr ⟨lw_p0, List.forall_mem_cons.mpr ⟨lw_p1, List.forall_mem_cons.mpr ⟨lw_p2, List.forall_mem_cons.mpr ⟨lw_p3, List.forall_mem_cons.mpr ⟨lw_p4, List.forall_mem_cons.mpr ⟨lw_p5, List.forall_mem_cons.mpr ⟨lw_p6, List.forall_mem_cons.mpr ⟨lw_p7, List.forall_mem_cons.mpr ⟨lw_p8, List.forall_mem_cons.mpr ⟨lw_p9, List.forall_mem_cons.mpr ⟨lw_p10, List.forall_mem_cons.mpr ⟨lw_p11, List.forall_mem_cons.mpr ⟨lw_p12, List.forall_mem_cons.mpr ⟨lw_p13, List.forall_mem_cons.mpr ⟨lw_p14, List.forall_mem_cons.mpr ⟨lw_p15, fun _ h => absurd h List.not_mem_nil⟩⟩⟩⟩⟩⟩⟩⟩⟩⟩⟩⟩⟩⟩⟩⟩
theorem lw_p16 : lw_okq (⟨"TwoStepOutputs$Lines", "isThere", "(II)Z"⟩, 3) := ⟨⟨by decide +kernel, by decide +kernel⟩, List.mem_of_getElem? (i := 139) (by decide +kernel), List.mem_of_getElem? (i := 465) (by decide +kernel), List.mem_of_getElem? (i := 466) (by decide +kernel)⟩
theorem lw_p17 : lw_okq (⟨"TwoStepOutputs", "giveUpFrom", "(I)I"⟩, 9) := ⟨⟨by decide +kernel, by decide +kernel⟩, List.mem_of_getElem? (i := 21) (by decide +kernel), List.mem_of_getElem? (i := 498) (by decide +kernel), List.mem_of_getElem? (i := 499) (by decide +kernel)⟩
theorem lw_p18 : lw_okq (⟨"TwoStepOutputs", "giveUpParts", "(LTwoStepOutputs$Output;I)I"⟩, 9) := ⟨⟨by decide +kernel, by decide +kernel⟩, List.mem_of_getElem? (i := 21) (by decide +kernel), List.mem_of_getElem? (i := 502) (by decide +kernel), List.mem_of_getElem? (i := 503) (by decide +kernel)⟩
theorem lw_p19 : lw_okq (⟨"TwoStepOutputs", "readerAt", "(I)LTwoStepOutputs$Reader;"⟩, 9) := ⟨⟨by decide +kernel, by decide +kernel⟩, List.mem_of_getElem? (i := 21) (by decide +kernel), List.mem_of_getElem? (i := 587) (by decide +kernel), List.mem_of_getElem? (i := 588) (by decide +kernel)⟩
theorem lw_p20 : lw_okq (⟨"TwoStepOutputs$Output", "isClosedUpTo", "(II)Z"⟩, 10) := ⟨⟨by decide +kernel, by decide +kernel⟩, List.mem_of_getElem? (i := 131) (by decide +kernel), List.mem_of_getElem? (i := 623) (by decide +kernel), List.mem_of_getElem? (i := 624) (by decide +kernel)⟩
theorem lw_p21 : lw_okq (⟨"TwoStepOutputsModel", "strange", "(I)Z"⟩, 34) := ⟨⟨by decide +kernel, by decide +kernel⟩, List.mem_of_getElem? (i := 642) (by decide +kernel), List.mem_of_getElem? (i := 762) (by decide +kernel), List.mem_of_getElem? (i := 763) (by decide +kernel)⟩
theorem lw_p22 : lw_okq (⟨"TwoStepOutputsModel", "bars", "(I)I"⟩, 34) := ⟨⟨by decide +kernel, by decide +kernel⟩, List.mem_of_getElem? (i := 642) (by decide +kernel), List.mem_of_getElem? (i := 770) (by decide +kernel), List.mem_of_getElem? (i := 771) (by decide +kernel)⟩
theorem lw_p23 : lw_okq (⟨"TwoStepOutputsModel", "greatest", "()I"⟩, 34) := ⟨⟨by decide +kernel, by decide +kernel⟩, List.mem_of_getElem? (i := 642) (by decide +kernel), List.mem_of_getElem? (i := 774) (by decide +kernel), List.mem_of_getElem? (i := 775) (by decide +kernel)⟩
theorem lw_p24 : lw_okq (⟨"TwoStepOutputsModel", "bar", "(I)I"⟩, 34) := ⟨⟨by decide +kernel, by decide +kernel⟩, List.mem_of_getElem? (i := 642) (by decide +kernel), List.mem_of_getElem? (i := 782) (by decide +kernel), List.mem_of_getElem? (i := 783) (by decide +kernel)⟩
theorem lw_p25 : lw_okq (⟨"TwoStepOutputsModel", "record", "(IIIII)Z"⟩, 34) := ⟨⟨by decide +kernel, by decide +kernel⟩, List.mem_of_getElem? (i := 642) (by decide +kernel), List.mem_of_getElem? (i := 786) (by decide +kernel), List.mem_of_getElem? (i := 787) (by decide +kernel)⟩
theorem lw_p26 : lw_okq (⟨"TwoStepOutputsModel", "act", "()Z"⟩, 34) := ⟨⟨by decide +kernel, by decide +kernel⟩, List.mem_of_getElem? (i := 642) (by decide +kernel), List.mem_of_getElem? (i := 790) (by decide +kernel), List.mem_of_getElem? (i := 791) (by decide +kernel)⟩
theorem lw_p27 : lw_okq (⟨"TwoStepOutputsModel", "empty", "()V"⟩, 34) := ⟨⟨by decide +kernel, by decide +kernel⟩, List.mem_of_getElem? (i := 642) (by decide +kernel), List.mem_of_getElem? (i := 794) (by decide +kernel), List.mem_of_getElem? (i := 795) (by decide +kernel)⟩
theorem lw_p28 : lw_okq (⟨"TwoStepOutputsModel", "shown", "()I"⟩, 34) := ⟨⟨by decide +kernel, by decide +kernel⟩, List.mem_of_getElem? (i := 642) (by decide +kernel), List.mem_of_getElem? (i := 802) (by decide +kernel), List.mem_of_getElem? (i := 803) (by decide +kernel)⟩
theorem lw_p29 : lw_okq (⟨"TwoStepOutputsModel", "stateOf", "(II)I"⟩, 34) := ⟨⟨by decide +kernel, by decide +kernel⟩, List.mem_of_getElem? (i := 642) (by decide +kernel), List.mem_of_getElem? (i := 806) (by decide +kernel), List.mem_of_getElem? (i := 807) (by decide +kernel)⟩
theorem lw_p30 : lw_okq (⟨"TwoStepOutputsModel", "markOf", "(II)I"⟩, 34) := ⟨⟨by decide +kernel, by decide +kernel⟩, List.mem_of_getElem? (i := 642) (by decide +kernel), List.mem_of_getElem? (i := 810) (by decide +kernel), List.mem_of_getElem? (i := 811) (by decide +kernel)⟩
theorem lw_p31 : lw_okq (⟨"TwoStepOutputsModel", "showPart", "(II)I"⟩, 34) := ⟨⟨by decide +kernel, by decide +kernel⟩, List.mem_of_getElem? (i := 642) (by decide +kernel), List.mem_of_getElem? (i := 814) (by decide +kernel), List.mem_of_getElem? (i := 815) (by decide +kernel)⟩
def lw_privs_2 : List (MethodName × Nat) := [(⟨"TwoStepOutputs$Lines", "isThere", "(II)Z"⟩, 3), (⟨"TwoStepOutputs", "giveUpFrom", "(I)I"⟩, 9), (⟨"TwoStepOutputs", "giveUpParts", "(LTwoStepOutputs$Output;I)I"⟩, 9), (⟨"TwoStepOutputs", "readerAt", "(I)LTwoStepOutputs$Reader;"⟩, 9), (⟨"TwoStepOutputs$Output", "isClosedUpTo", "(II)Z"⟩, 10), (⟨"TwoStepOutputsModel", "strange", "(I)Z"⟩, 34), (⟨"TwoStepOutputsModel", "bars", "(I)I"⟩, 34), (⟨"TwoStepOutputsModel", "greatest", "()I"⟩, 34), (⟨"TwoStepOutputsModel", "bar", "(I)I"⟩, 34), (⟨"TwoStepOutputsModel", "record", "(IIIII)Z"⟩, 34), (⟨"TwoStepOutputsModel", "act", "()Z"⟩, 34), (⟨"TwoStepOutputsModel", "empty", "()V"⟩, 34), (⟨"TwoStepOutputsModel", "shown", "()I"⟩, 34), (⟨"TwoStepOutputsModel", "stateOf", "(II)I"⟩, 34), (⟨"TwoStepOutputsModel", "markOf", "(II)I"⟩, 34), (⟨"TwoStepOutputsModel", "showPart", "(II)I"⟩, 34)]
theorem lw_r2 : ∀ q ∈ lw_privs_2, lw_okq q := List.forall_mem_cons.mpr ⟨lw_p16, List.forall_mem_cons.mpr ⟨lw_p17, List.forall_mem_cons.mpr ⟨lw_p18, List.forall_mem_cons.mpr ⟨lw_p19, List.forall_mem_cons.mpr ⟨lw_p20, List.forall_mem_cons.mpr ⟨lw_p21, List.forall_mem_cons.mpr ⟨lw_p22, List.forall_mem_cons.mpr ⟨lw_p23, List.forall_mem_cons.mpr ⟨lw_p24, List.forall_mem_cons.mpr ⟨lw_p25, List.forall_mem_cons.mpr ⟨lw_p26, List.forall_mem_cons.mpr ⟨lw_p27, List.forall_mem_cons.mpr ⟨lw_p28, List.forall_mem_cons.mpr ⟨lw_p29, List.forall_mem_cons.mpr ⟨lw_p30, List.forall_mem_cons.mpr ⟨lw_p31, fun _ h => absurd h List.not_mem_nil⟩⟩⟩⟩⟩⟩⟩⟩⟩⟩⟩⟩⟩⟩⟩⟩
theorem lw_p32 : lw_okq (⟨"TwoStepOutputsModel", "line", "(IIII)I"⟩, 34) := ⟨⟨by decide +kernel, by decide +kernel⟩, List.mem_of_getElem? (i := 642) (by decide +kernel), List.mem_of_getElem? (i := 818) (by decide +kernel), List.mem_of_getElem? (i := 819) (by decide +kernel)⟩
theorem lw_p33 : lw_okq (⟨"TwoStepOutputsModel", "last", "(IIII)I"⟩, 34) := ⟨⟨by decide +kernel, by decide +kernel⟩, List.mem_of_getElem? (i := 642) (by decide +kernel), List.mem_of_getElem? (i := 822) (by decide +kernel), List.mem_of_getElem? (i := 823) (by decide +kernel)⟩
theorem lw_p34 : lw_okq (⟨"TwoStepOutputsModel", "goes", "(II)I"⟩, 34) := ⟨⟨by decide +kernel, by decide +kernel⟩, List.mem_of_getElem? (i := 642) (by decide +kernel), List.mem_of_getElem? (i := 834) (by decide +kernel), List.mem_of_getElem? (i := 835) (by decide +kernel)⟩
theorem lw_p35 : lw_okq (⟨"TwoStepOutputsModel", "rowsOf", "(II)I"⟩, 34) := ⟨⟨by decide +kernel, by decide +kernel⟩, List.mem_of_getElem? (i := 642) (by decide +kernel), List.mem_of_getElem? (i := 838) (by decide +kernel), List.mem_of_getElem? (i := 839) (by decide +kernel)⟩
theorem lw_p36 : lw_okq (⟨"TwoStepOutputsModel", "lacks", "(II)I"⟩, 34) := ⟨⟨by decide +kernel, by decide +kernel⟩, List.mem_of_getElem? (i := 642) (by decide +kernel), List.mem_of_getElem? (i := 902) (by decide +kernel), List.mem_of_getElem? (i := 903) (by decide +kernel)⟩
def lw_privs_3 : List (MethodName × Nat) := [(⟨"TwoStepOutputsModel", "line", "(IIII)I"⟩, 34), (⟨"TwoStepOutputsModel", "last", "(IIII)I"⟩, 34), (⟨"TwoStepOutputsModel", "goes", "(II)I"⟩, 34), (⟨"TwoStepOutputsModel", "rowsOf", "(II)I"⟩, 34), (⟨"TwoStepOutputsModel", "lacks", "(II)I"⟩, 34)]
theorem lw_r3 : ∀ q ∈ lw_privs_3, lw_okq q := List.forall_mem_cons.mpr ⟨lw_p32, List.forall_mem_cons.mpr ⟨lw_p33, List.forall_mem_cons.mpr ⟨lw_p34, List.forall_mem_cons.mpr ⟨lw_p35, List.forall_mem_cons.mpr ⟨lw_p36, fun _ h => absurd h List.not_mem_nil⟩⟩⟩⟩⟩
def lw_privs : List (MethodName × Nat) := lw_privs_1 ++ (lw_privs_2 ++ (lw_privs_3))
def lw_tbl : List Cond := k2_sels lw_privs ++ tables_1
theorem lw_privs_ok : ∀ q ∈ lw_privs, lw_okq q := by
  show ∀ q ∈ lw_privs_1 ++ (lw_privs_2 ++ (lw_privs_3)), lw_okq q
  exact List.forall_mem_append.mpr ⟨lw_r1, List.forall_mem_append.mpr ⟨lw_r2, lw_r3⟩⟩
end
section
/-! The abstract machine: cells by address, a deterministic step, its limit. A cell: an int array, an array of references, an object (class number, fields), the script (read only), ArrayList's empty array (true) or nothing known (false). -/
abbrev am_C : Type := (Nat × (Nat → Int32)) ⊕ (Nat × (Nat → Option Nat)) ⊕ (Nat × List Value) ⊕ (Nat × (Nat → Int32)) ⊕ Bool
/-- heap: size, slots used, cells -/
abbrev am_H : Type := Nat × Nat × (Nat → am_C)
abbrev am_L : Type := List (Option Value)
abbrev am_X : Type := Nat × Nat × List (Nat × Nat) × Int × Nat
abbrev am_R : Type := Option Value × am_H
/-- what an instruction does: an answer; go on; call -/
abbrev am_A : Type := am_R ⊕ (Nat × am_L × List Value × am_H) ⊕ (Nat × List Value × List Value)
abbrev am_T : Type := List (Nat × Instr × Nat × am_X)
abbrev ac_I (n : Nat) (f : Nat → Int32) : am_C := .inl (n, f)
abbrev ac_R (n : Nat) (f : Nat → Option Nat) : am_C := .inr (.inl (n, f))
abbrev ac_O (ci : Nat) (fs : List Value) : am_C := .inr (.inr (.inl (ci, fs)))
abbrev ac_S (n : Nat) (f : Nat → Int32) : am_C := .inr (.inr (.inr (.inl (n, f))))
abbrev ac_E : am_C := .inr (.inr (.inr (.inr true)))
abbrev ac_N : am_C := .inr (.inr (.inr (.inr false)))
def ah_put (h : am_H) (a : Nat) (c : am_C) : am_H := (h.1, h.2.1, va_up h.2.2 a c)
def ah_new (h : am_H) (k : Nat) (c : am_C) : am_H := (h.1 + 1, h.2.1 + k, va_up h.2.2 h.1 c)
def am_ix (i : Int32) (n : Nat) : Option Nat := if 0 ≤ i.toInt ∧ i.toInt < n then some i.toNatClampNeg else none
def am_okf (ty : FieldType) (v : Value) : Bool := match ty with
  | .int => match v with
    | .int _ => true
    | _ => false
  | .boolean => match v with
    | .int x => x == 0 || x == 1
    | _ => false
  | .object _ => match v with
    | .ref _ => true
    | .null => true
    | _ => false
  | .array _ => match v with
    | .ref _ => true
    | .null => true
    | _ => false
  | _ => false
def am_okr (rt : Option FieldType) (x : Int32) : Bool := match rt with
  | some .int => true
  | some .boolean => x == 0 || x == 1
  | _ => false
def am_rf (v : Value) : Option (Option Nat) := match v with
  | .null => some none
  | .ref a => some (some a)
  | _ => none
def am_gf (h : am_H) (a : Nat) (al : List (Nat × Nat)) : Option Value := match h.2.2 a with
  | .inr (.inr (.inl (ci, fs))) => match al.lookup ci with
    | some k => fs[k]?
    | none => none
  | _ => none
def am_pf (ty : Nat → Nat → FieldType) (h : am_H) (a : Nat) (al : List (Nat × Nat)) (v : Value) : Option am_H := match h.2.2 a with
  | .inr (.inr (.inl (ci, fs))) => match al.lookup ci with
    | some k => if k < fs.length ∧ am_okf (ty ci k) v = true then some (ah_put h a (ac_O ci (fs.set k v))) else none
    | none => none
  | _ => none
def am_iald (h : am_H) (a : Nat) (i : Int32) : Option Int32 := match h.2.2 a with
  | .inl (n, f) => (am_ix i n).map f
  | .inr (.inr (.inr (.inl (n, f)))) => (am_ix i n).map f
  | _ => none
def am_iast (h : am_H) (a : Nat) (i x : Int32) : Option am_H := match h.2.2 a with
  | .inl (n, f) => (am_ix i n).map (fun k => ah_put h a (ac_I n (upd f k x)))
  | _ => none
def am_aald (h : am_H) (a : Nat) (i : Int32) : Option (Option Nat) := match h.2.2 a with
  | .inr (.inl (n, f)) => (am_ix i n).map f
  | _ => none
/-- only an object goes into an array of references -/
def am_aast (h : am_H) (a : Nat) (i : Int32) (v : Nat) : Option am_H := match h.2.2 a with
  | .inr (.inl (n, f)) => match h.2.2 v with
    | .inr (.inr (.inl (ci, _))) => if ci = 0 then none else (am_ix i n).map (fun k => ah_put h a (ac_R n (va_up f k (some v))))
    | _ => none
  | _ => none
def am_alen (h : am_H) (a : Nat) : Option Int32 := match h.2.2 a with
  | .inl (n, _) => some (Int32.ofNat n)
  | .inr (.inl (n, _)) => some (Int32.ofNat n)
  | .inr (.inr (.inr (.inl (n, _)))) => some (Int32.ofNat n)
  | .inr (.inr (.inr (.inr true))) => some 0
  | _ => none
def am_cls (h : am_H) (a : Nat) : Option Nat := match h.2.2 a with
  | .inr (.inr (.inl (ci, _))) => some ci
  | _ => none
/-- an array is copied from place 0 on to place 0 of another -/
def am_copy (h : am_H) (a b : Nat) (n : Int32) : Option am_H := if a = b ∨ n.toInt < 0 then none else match h.2.2 a with
  | .inl (na, f) => match h.2.2 b with
    | .inl (nb, g) => if n.toInt ≤ na ∧ n.toInt ≤ nb then some (ah_put h b (ac_I nb (va_cpy f g 0 0 n.toNatClampNeg))) else none
    | _ => none
  | .inr (.inl (na, f)) => match h.2.2 b with
    | .inr (.inl (nb, g)) => if n.toInt ≤ na ∧ n.toInt ≤ nb then some (ah_put h b (ac_R nb (va_cpy f g 0 0 n.toNatClampNeg))) else none
    | _ => none
  | _ => none
def am_c1 (v : Value) : Bool := match v with
  | .int _ => true
  | .ref _ => true
  | .null => true
  | _ => false
def am_pop : Nat → List Value → List Value → Option (List Value × List Value)
  | 0, acc, st => some (acc, st)
  | n + 1, acc, v :: st => am_pop n (v :: acc) st
  | _ + 1, _, [] => none
def am_sw (x : Int32) (d : Nat) : List (Nat × Nat) → Nat
  | [] => d
  | (j, t) :: r => if x = Int32.ofNat j then t else am_sw x d r
def am_cond (c : ClassFile.Cond) (x y : Int32) : Bool := match c with
  | .eq => decide (x = y)
  | .ne => decide (¬ x = y)
  | .lt => decide (x < y)
  | .ge => decide (y ≤ x)
  | .gt => decide (y < x)
  | .le => decide (x ≤ y)
abbrev am_go (pc : Nat) (ls : am_L) (st : List Value) (h : am_H) : Option am_A := some (.inr (.inl (pc, ls, st, h)))
def am_ld (ls : am_L) (k : Nat) : Option Value := match ls[k]? with
  | some (some v) => some v
  | _ => none
def am_st (ls : am_L) (k : Nat) (v : Value) : Option am_L := if k < ls.length then some (ls.set k (some v)) else none
def am_br {α : Type} (c : ClassFile.Cond) (x y : Int32) (a b : α) : α := match c with
  | .eq => if x = y then a else b
  | .ne => if x = y then b else a
  | .lt => if x < y then a else b
  | .ge => if y ≤ x then a else b
  | .gt => if y < x then a else b
  | .le => if x ≤ y then a else b
def am_abr {α : Type} (c : ClassFile.ACond) (x y : Option Nat) (a b : α) : α := match c with
  | .eq => if x = y then a else b
  | .ne => if x = y then b else a
/-- one instruction. P: the empty array's address, the mirror's; ty: types of fields; df: fields at birth; rt: the method's return type -/
def am_act (P : Nat × Nat) (ty : Nat → Nat → FieldType) (df : Nat → List Value) (rt : Option FieldType) (pc : Nat) (i : Instr) (x : am_X) (ls : am_L) (st : List Value) (h : am_H) : Option am_A :=
  match i with
  | .iconst k => am_go (pc + 1) ls (.int (Int32.ofInt k) :: st) h
  | .bipush k => am_go (pc + 2) ls (.int (Int8.ofInt k).toInt32 :: st) h
  | .sipush k => am_go (pc + 3) ls (.int (Int16.ofInt k).toInt32 :: st) h
  | .aconst_null => am_go (pc + 1) ls (.null :: st) h
  | .ldc _ => if x.1 = 1 then am_go (pc + 2) ls (.ref P.2 :: st) h else am_go (pc + 2) ls (.int (Int32.ofInt x.2.2.2.1) :: st) h
  | .ldc2_w _ => am_go (pc + 3) ls (.long (Int64.ofInt x.2.2.2.1) :: st) h
  | .iload_n k => match am_ld ls k with
    | some (.int v) => am_go (pc + 1) ls (.int v :: st) h
    | _ => none
  | .iload k => match am_ld ls k with
    | some (.int v) => am_go (pc + 2) ls (.int v :: st) h
    | _ => none
  | .aload_n k => match am_ld ls k with
    | some (.ref v) => am_go (pc + 1) ls (.ref v :: st) h
    | some .null => am_go (pc + 1) ls (.null :: st) h
    | _ => none
  | .aload k => match am_ld ls k with
    | some (.ref v) => am_go (pc + 2) ls (.ref v :: st) h
    | some .null => am_go (pc + 2) ls (.null :: st) h
    | _ => none
  | .istore_n k => match st with
    | .int v :: r => match am_st ls k (.int v) with
      | some ls' => am_go (pc + 1) ls' r h
      | none => none
    | _ => none
  | .istore k => match st with
    | .int v :: r => match am_st ls k (.int v) with
      | some ls' => am_go (pc + 2) ls' r h
      | none => none
    | _ => none
  | .astore_n k => match st with
    | .ref v :: r => match am_st ls k (.ref v) with
      | some ls' => am_go (pc + 1) ls' r h
      | none => none
    | .null :: r => match am_st ls k .null with
      | some ls' => am_go (pc + 1) ls' r h
      | none => none
    | _ => none
  | .astore k => match st with
    | .ref v :: r => match am_st ls k (.ref v) with
      | some ls' => am_go (pc + 2) ls' r h
      | none => none
    | .null :: r => match am_st ls k .null with
      | some ls' => am_go (pc + 2) ls' r h
      | none => none
    | _ => none
  | .iinc k n => match am_ld ls k with
    | some (.int v) => match am_st ls k (.int (v + Int32.ofInt n)) with
      | some ls' => am_go (pc + 3) ls' st h
      | none => none
    | _ => none
  | .iadd => match st with
    | .int b :: .int a :: r => am_go (pc + 1) ls (.int (a + b) :: r) h
    | _ => none
  | .isub => match st with
    | .int b :: .int a :: r => am_go (pc + 1) ls (.int (a - b) :: r) h
    | _ => none
  | .imul => match st with
    | .int b :: .int a :: r => am_go (pc + 1) ls (.int (a * b) :: r) h
    | _ => none
  | .iand => match st with
    | .int b :: .int a :: r => am_go (pc + 1) ls (.int (a &&& b) :: r) h
    | _ => none
  | .ior => match st with
    | .int b :: .int a :: r => am_go (pc + 1) ls (.int (a ||| b) :: r) h
    | _ => none
  | .ishl => match st with
    | .int b :: .int a :: r => am_go (pc + 1) ls (.int (a <<< (b &&& 31)) :: r) h
    | _ => none
  | .ishr => match st with
    | .int b :: .int a :: r => am_go (pc + 1) ls (.int (a >>> (b &&& 31)) :: r) h
    | _ => none
  | .i2l => match st with
    | .int a :: r => am_go (pc + 1) ls (.long a.toInt64 :: r) h
    | _ => none
  | .lcmp => match st with
    | .long b :: .long a :: r => am_go (pc + 1) ls (.int (lg_cmp a b) :: r) h
    | _ => none
  | .dup => match st with
    | .int a :: r => am_go (pc + 1) ls (.int a :: .int a :: r) h
    | .ref a :: r => am_go (pc + 1) ls (.ref a :: .ref a :: r) h
    | _ => none
  | .dup_x1 => match st with
    | .int a :: .ref b :: r => am_go (pc + 1) ls (.int a :: .ref b :: .int a :: r) h
    | .ref a :: .ref b :: r => am_go (pc + 1) ls (.ref a :: .ref b :: .ref a :: r) h
    | _ => none
  | .dup2 => match st with
    | .int a :: .ref b :: r => am_go (pc + 1) ls (.int a :: .ref b :: .int a :: .ref b :: r) h
    | _ => none
  | .pop => match st with
    | .int _ :: r => am_go (pc + 1) ls r h
    | _ => none
  | .goto _ => am_go x.1 ls st h
  | .ifCond c _ => match st with
    | .int a :: r => am_br c a 0 (am_go x.1 ls r h) (am_go (pc + 3) ls r h)
    | _ => none
  | .if_icmp c _ => match st with
    | .int b :: .int a :: r => am_br c a b (am_go x.1 ls r h) (am_go (pc + 3) ls r h)
    | _ => none
  | .if_acmp c _ => match st with
    | b :: a :: r => match am_rf a, am_rf b with
      | some a', some b' => am_abr c a' b' (am_go x.1 ls r h) (am_go (pc + 3) ls r h)
      | _, _ => none
    | _ => none
  | .ifnull _ => match st with
    | .null :: r => am_go x.1 ls r h
    | .ref _ :: r => am_go (pc + 3) ls r h
    | _ => none
  | .ifnonnull _ => match st with
    | .null :: r => am_go (pc + 3) ls r h
    | .ref _ :: r => am_go x.1 ls r h
    | _ => none
  | .tableswitch .. => match st with
    | .int a :: r => am_go (am_sw a x.1 x.2.2.1) ls r h
    | _ => none
  | .getfield _ => match st with
    | .ref a :: r => match am_gf h a x.2.2.1 with
      | some v => am_go (pc + 3) ls (v :: r) h
      | none => none
    | _ => none
  | .putfield _ => match st with
    | v :: .ref a :: r => match am_pf ty h a x.2.2.1 v with
      | some h' => am_go (pc + 3) ls r h'
      | none => none
    | _ => none
  | .getstatic _ => am_go (pc + 3) ls (.ref P.1 :: st) h
  | .new _ => am_go (pc + 3) ls (.ref h.1 :: st) (ah_new h (df x.1).length (ac_O x.1 (df x.1)))
  | .newarray _ => match st with
    | .int n :: r => if n.toInt < 0 ∨ 1000000 < n.toInt then none else am_go (pc + 2) ls (.ref h.1 :: r) (ah_new h n.toNatClampNeg (ac_I n.toNatClampNeg (fun _ => 0)))
    | _ => none
  | .anewarray _ => match st with
    | .int n :: r => if n.toInt < 0 ∨ 1000000 < n.toInt then none else am_go (pc + 3) ls (.ref h.1 :: r) (ah_new h n.toNatClampNeg (ac_R n.toNatClampNeg (fun _ => none)))
    | _ => none
  | .iaload => match st with
    | .int i :: .ref a :: r => match am_iald h a i with
      | some v => am_go (pc + 1) ls (.int v :: r) h
      | none => none
    | _ => none
  | .iastore => match st with
    | .int v :: .int i :: .ref a :: r => match am_iast h a i v with
      | some h' => am_go (pc + 1) ls r h'
      | none => none
    | _ => none
  | .aaload => match st with
    | .int i :: .ref a :: r => match am_aald h a i with
      | some v => am_go (pc + 1) ls (va_rf v :: r) h
      | none => none
    | _ => none
  | .aastore => match st with
    | .ref v :: .int i :: .ref a :: r => match am_aast h a i v with
      | some h' => am_go (pc + 1) ls r h'
      | none => none
    | _ => none
  | .arraylength => match st with
    | .ref a :: r => match am_alen h a with
      | some n => am_go (pc + 1) ls (.int n :: r) h
      | none => none
    | _ => none
  | .checkcast _ => match st with
    | .null :: r => am_go (pc + 3) ls (.null :: r) h
    | .ref a :: r => if am_cls h a = some x.1 then am_go (pc + 3) ls (.ref a :: r) h else none
    | _ => none
  | .ireturn => match st with
    | [.int v] => if am_okr rt v = true then some (.inl (some (.int v), h)) else none
    | _ => none
  | .lreturn => match st with
    | [.long v] => some (.inl (some (.long v), h))
    | _ => none
  | .areturn => match st with
    | [.ref v] => some (.inl (some (.ref v), h))
    | [.null] => some (.inl (some .null, h))
    | _ => none
  | .return_ => match st with
    | [] => some (.inl (none, h))
    | _ => none
  | .invokestatic _ => if x.2.2.2.1 = 11 then (match st with
      | .int n :: .int d :: .ref b :: .int s :: .ref a :: r => if d = 0 ∧ s = 0 ∧ r.length ≤ 4 then (match am_copy h a b n with
        | some h' => am_go (pc + 3) ls r h'
        | none => none) else none
      | _ => none) else match am_pop x.2.1 [] st with
    | some (as, r) => if (Nat.ble r.length 4 && as.all am_c1) = true then some (.inr (.inr (x.1, as, r))) else none
    | none => none
  | .invokespecial _ => if x.2.2.2.1 = 10 then (match st with
      | .ref _ :: r => if r.length ≤ 4 then am_go (pc + 3) ls r h else none
      | _ => none) else match am_pop x.2.1 [] st with
    | some (as, .ref a :: r) => if (Nat.ble r.length 4 && as.all am_c1) = true then some (.inr (.inr (x.1, .ref a :: as, r))) else none
    | _ => none
  | .invokevirtual _ => if x.2.2.2.1 = 13 then (match st with
      | .ref a :: r => match h.2.2 a with
        | .inr (.inl _) => if r.length ≤ 4 then am_go (pc + 3) ls (.ref P.2 :: r) h else none
        | _ => none
      | _ => none) else match am_pop x.2.1 [] st with
    | some (as, .ref a :: r) => match am_cls h a with
      | some ci => match x.2.2.1.lookup ci with
        | some _ => if (Nat.ble r.length 4 && as.all am_c1) = true then some (.inr (.inr (x.1, .ref a :: as, r))) else none
        | none => none
      | none => none
    | _ => none
  | _ => none
def am_ini (as : List Value) (n : Nat) : am_L := as.map some ++ List.replicate (n - as.length) none
end
section
/-! Printed by a program of ours (wip/whole/gen): the classes, their fields, the methods and their instructions. -/
def pR0 : String := "java/util/ArrayList"
def pT0 : u_T := fun k => match k with
  | 0 => ("java/util/AbstractList", "modCount", "I", false)
  | 1 => ("java/util/ArrayList", "elementData", "[Ljava/lang/Object;", false)
  | _ => ("java/util/ArrayList", "size", "I", false)
theorem pN0 : ∀ a, a < 3 → ∀ b, b < 3 → a ≠ b → (pT0 a).2.1 ≠ (pT0 b).2.1 := by decide +kernel
def pR1 : String := "TwoStepOutputs$Barriers"
def pT1 : u_T := fun k => match k with
  | 0 => ("TwoStepOutputs$Barriers", "marks", "[I", true)
  | 1 => ("TwoStepOutputs$Barriers", "count", "I", false)
  | _ => ("TwoStepOutputs$Barriers", "made", "I", false)
theorem pN1 : ∀ a, a < 3 → ∀ b, b < 3 → a ≠ b → (pT1 a).2.1 ≠ (pT1 b).2.1 := by decide +kernel
def pR2 : String := "TwoStepOutputs$Disk"
def pT2 : u_T := fun k => match k with
  | 0 => ("TwoStepOutputs$Rows", "width", "I", true)
  | 1 => ("TwoStepOutputs$Rows", "cells", "[I", false)
  | _ => ("TwoStepOutputs$Rows", "count", "I", false)
theorem pN2 : ∀ a, a < 3 → ∀ b, b < 3 → a ≠ b → (pT2 a).2.1 ≠ (pT2 b).2.1 := by decide +kernel
def pR3 : String := "TwoStepOutputs$Lines"
def pT3 : u_T := fun k => match k with
  | 0 => ("TwoStepOutputs$Rows", "width", "I", true)
  | 1 => ("TwoStepOutputs$Rows", "cells", "[I", false)
  | _ => ("TwoStepOutputs$Rows", "count", "I", false)
theorem pN3 : ∀ a, a < 3 → ∀ b, b < 3 → a ≠ b → (pT3 a).2.1 ≠ (pT3 b).2.1 := by decide +kernel
def pR4 : String := "TwoStepOutputs$Output"
def pT4 : u_T := fun k => match k with
  | 0 => ("TwoStepOutputs$Output", "number", "I", true)
  | 1 => ("TwoStepOutputs$Output", "sort", "I", true)
  | 2 => ("TwoStepOutputs$Output", "openKeys", "[I", true)
  | 3 => ("TwoStepOutputs$Output", "openValues", "[I", true)
  | 4 => ("TwoStepOutputs$Output", "openRows", "I", false)
  | 5 => ("TwoStepOutputs$Output", "parts", "Ljava/util/ArrayList;", true)
  | 6 => ("TwoStepOutputs$Output", "triesMade", "I", false)
  | 7 => ("TwoStepOutputs$Output", "triesToFail", "I", false)
  | 8 => ("TwoStepOutputs$Output", "lines", "LTwoStepOutputs$Lines;", true)
  | _ => ("TwoStepOutputs$Output", "table", "LTwoStepOutputs$Table;", true)
theorem pN4 : ∀ a, a < 10 → ∀ b, b < 10 → a ≠ b → (pT4 a).2.1 ≠ (pT4 b).2.1 := by decide +kernel
def pR5 : String := "TwoStepOutputs$Part"
def pT5 : u_T := fun k => match k with
  | 0 => ("TwoStepOutputs$Part", "number", "I", true)
  | 1 => ("TwoStepOutputs$Part", "firstRecord", "I", true)
  | 2 => ("TwoStepOutputs$Part", "rows", "I", false)
  | 3 => ("TwoStepOutputs$Part", "mark", "I", false)
  | 4 => ("TwoStepOutputs$Part", "state", "I", false)
  | 5 => ("TwoStepOutputs$Part", "placesMet", "I", false)
  | _ => ("TwoStepOutputs$Part", "nextPlace", "I", false)
theorem pN5 : ∀ a, a < 7 → ∀ b, b < 7 → a ≠ b → (pT5 a).2.1 ≠ (pT5 b).2.1 := by decide +kernel
def pR6 : String := "TwoStepOutputs$Reader"
def pT6 : u_T := fun k => match k with
  | 0 => ("TwoStepOutputs$Reader", "lines", "LTwoStepOutputs$Lines;", true)
  | 1 => ("TwoStepOutputs$Reader", "rowsOfKey", "[I", true)
  | _ => ("TwoStepOutputs$Reader", "position", "I", false)
theorem pN6 : ∀ a, a < 3 → ∀ b, b < 3 → a ≠ b → (pT6 a).2.1 ≠ (pT6 b).2.1 := by decide +kernel
def pR7 : String := "TwoStepOutputs$Table"
def pT7 : u_T := fun k => match k with
  | 0 => ("TwoStepOutputs$Table", "values", "[I", true)
  | 1 => ("TwoStepOutputs$Table", "parts", "[I", true)
  | 2 => ("TwoStepOutputs$Table", "places", "[I", true)
  | _ => ("TwoStepOutputs$Table", "count", "I", false)
theorem pN7 : ∀ a, a < 4 → ∀ b, b < 4 → a ≠ b → (pT7 a).2.1 ≠ (pT7 b).2.1 := by decide +kernel
def pR8 : String := "TwoStepOutputs"
def pT8 : u_T := fun k => match k with
  | 0 => ("TwoStepOutputs", "outputs", "Ljava/util/ArrayList;", true)
  | 1 => ("TwoStepOutputs", "readers", "Ljava/util/ArrayList;", true)
  | 2 => ("TwoStepOutputs", "disk", "LTwoStepOutputs$Disk;", true)
  | 3 => ("TwoStepOutputs", "barriers", "LTwoStepOutputs$Barriers;", true)
  | 4 => ("TwoStepOutputs", "theMark", "I", false)
  | 5 => ("TwoStepOutputs", "ended", "Z", false)
  | 6 => ("TwoStepOutputs", "down", "Z", false)
  | 7 => ("TwoStepOutputs", "actsToFailure", "I", false)
  | _ => ("TwoStepOutputs", "acts", "I", false)
theorem pN8 : ∀ a, a < 9 → ∀ b, b < 9 → a ≠ b → (pT8 a).2.1 ≠ (pT8 b).2.1 := by decide +kernel
def pR9 : String := "TwoStepOutputsModel"
def pT9 : u_T := fun k => match k with
  | 0 => ("TwoStepOutputsModel", "outputs", "I", false)
  | 1 => ("TwoStepOutputsModel", "sort", "[I", true)
  | 2 => ("TwoStepOutputsModel", "openMany", "[I", true)
  | 3 => ("TwoStepOutputsModel", "openKey", "[I", true)
  | 4 => ("TwoStepOutputsModel", "openValue", "[I", true)
  | 5 => ("TwoStepOutputsModel", "given", "[I", true)
  | 6 => ("TwoStepOutputsModel", "tries", "[I", true)
  | 7 => ("TwoStepOutputsModel", "failing", "[I", true)
  | 8 => ("TwoStepOutputsModel", "records", "I", false)
  | 9 => ("TwoStepOutputsModel", "kind", "[I", true)
  | 10 => ("TwoStepOutputsModel", "ofOutput", "[I", true)
  | 11 => ("TwoStepOutputsModel", "ofPart", "[I", true)
  | 12 => ("TwoStepOutputsModel", "number", "[I", true)
  | 13 => ("TwoStepOutputsModel", "value", "[I", true)
  | 14 => ("TwoStepOutputsModel", "lines", "[I", true)
  | 15 => ("TwoStepOutputsModel", "lineKey", "[I", true)
  | 16 => ("TwoStepOutputsModel", "lineValue", "[I", true)
  | 17 => ("TwoStepOutputsModel", "linePart", "[I", true)
  | 18 => ("TwoStepOutputsModel", "linePlace", "[I", true)
  | 19 => ("TwoStepOutputsModel", "keyPart", "[I", true)
  | 20 => ("TwoStepOutputsModel", "keyPlace", "[I", true)
  | 21 => ("TwoStepOutputsModel", "keyValue", "[I", true)
  | 22 => ("TwoStepOutputsModel", "readers", "I", false)
  | 23 => ("TwoStepOutputsModel", "readerOf", "[I", true)
  | 24 => ("TwoStepOutputsModel", "readerAt", "[I", true)
  | 25 => ("TwoStepOutputsModel", "mark", "I", false)
  | 26 => ("TwoStepOutputsModel", "barriers", "[I", true)
  | 27 => ("TwoStepOutputsModel", "barrierMany", "I", false)
  | 28 => ("TwoStepOutputsModel", "made", "I", false)
  | 29 => ("TwoStepOutputsModel", "ended", "Z", false)
  | 30 => ("TwoStepOutputsModel", "down", "Z", false)
  | 31 => ("TwoStepOutputsModel", "left", "I", false)
  | 32 => ("TwoStepOutputsModel", "acts", "I", false)
  | _ => ("TwoStepOutputsModel", "partsDone", "I", false)
theorem pN9 : ∀ a, a < 34 → ∀ b, b < 34 → a ≠ b → (pT9 a).2.1 ≠ (pT9 b).2.1 := by decide +kernel
abbrev p_cl : List vw_C := [(pR0, pT0, 3), (pR1, pT1, 3), (pR2, pT2, 3), (pR3, pT3, 3), (pR4, pT4, 10), (pR5, pT5, 7), (pR6, pT6, 3), (pR7, pT7, 4), (pR8, pT8, 9), (pR9, pT9, 34)]
def p_tys : List (List FieldType) := [[.int, .array (.object "java/lang/Object"), .int], [.array .int, .int, .int], [.int, .array .int, .int], [.int, .array .int, .int], [.int, .int, .array .int, .array .int, .int, .object "java/util/ArrayList", .int, .int, .object "TwoStepOutputs$Lines", .object "TwoStepOutputs$Table"], [.int, .int, .int, .int, .int, .int, .int], [.object "TwoStepOutputs$Lines", .array .int, .int], [.array .int, .array .int, .array .int, .int], [.object "java/util/ArrayList", .object "java/util/ArrayList", .object "TwoStepOutputs$Disk", .object "TwoStepOutputs$Barriers", .int, .boolean, .boolean, .int, .int], [.int, .array .int, .array .int, .array .int, .array .int, .array .int, .array .int, .array .int, .int, .array .int, .array .int, .array .int, .array .int, .array .int, .array .int, .array .int, .array .int, .array .int, .array .int, .array .int, .array .int, .array .int, .int, .array .int, .array .int, .int, .array .int, .int, .int, .boolean, .boolean, .int, .int, .int]]
def p_ty (ci k : Nat) : FieldType := match p_tys[ci]? with
  | some l => match l[k]? with
    | some t => t
    | none => .int
  | none => .int
def p_dfs : List (List Value) := [[.int 0, .null, .int 0], [.null, .int 0, .int 0], [.int 0, .null, .int 0], [.int 0, .null, .int 0], [.int 0, .int 0, .null, .null, .int 0, .null, .int 0, .int 0, .null, .null], [.int 0, .int 0, .int 0, .int 0, .int 0, .int 0, .int 0], [.null, .null, .int 0], [.null, .null, .null, .int 0], [.null, .null, .null, .null, .int 0, .int 0, .int 0, .int 0, .int 0], [.int 0, .null, .null, .null, .null, .null, .null, .null, .int 0, .null, .null, .null, .null, .null, .null, .null, .null, .null, .null, .null, .null, .null, .int 0, .null, .null, .int 0, .null, .int 0, .int 0, .int 0, .int 0, .int 0, .int 0, .int 0]]
def p_df (ci : Nat) : List Value := match p_dfs[ci]? with
  | some l => l
  | none => []
theorem pY0 : ∀ k, k < 3 → parseFieldDescriptor (pT0 k).2.2.1 = some (p_ty 0 k) := by decide +kernel
theorem pD0 : ∀ k, k < 3 → defaultValue (p_ty 0 k) = vp_V (p_df 0) k := by decide +kernel
theorem pY1 : ∀ k, k < 3 → parseFieldDescriptor (pT1 k).2.2.1 = some (p_ty 1 k) := by decide +kernel
theorem pD1 : ∀ k, k < 3 → defaultValue (p_ty 1 k) = vp_V (p_df 1) k := by decide +kernel
theorem pY2 : ∀ k, k < 3 → parseFieldDescriptor (pT2 k).2.2.1 = some (p_ty 2 k) := by decide +kernel
theorem pD2 : ∀ k, k < 3 → defaultValue (p_ty 2 k) = vp_V (p_df 2) k := by decide +kernel
theorem pY3 : ∀ k, k < 3 → parseFieldDescriptor (pT3 k).2.2.1 = some (p_ty 3 k) := by decide +kernel
theorem pD3 : ∀ k, k < 3 → defaultValue (p_ty 3 k) = vp_V (p_df 3) k := by decide +kernel
theorem pY4 : ∀ k, k < 10 → parseFieldDescriptor (pT4 k).2.2.1 = some (p_ty 4 k) := by decide +kernel
theorem pD4 : ∀ k, k < 10 → defaultValue (p_ty 4 k) = vp_V (p_df 4) k := by decide +kernel
theorem pY5 : ∀ k, k < 7 → parseFieldDescriptor (pT5 k).2.2.1 = some (p_ty 5 k) := by decide +kernel
theorem pD5 : ∀ k, k < 7 → defaultValue (p_ty 5 k) = vp_V (p_df 5) k := by decide +kernel
theorem pY6 : ∀ k, k < 3 → parseFieldDescriptor (pT6 k).2.2.1 = some (p_ty 6 k) := by decide +kernel
theorem pD6 : ∀ k, k < 3 → defaultValue (p_ty 6 k) = vp_V (p_df 6) k := by decide +kernel
theorem pY7 : ∀ k, k < 4 → parseFieldDescriptor (pT7 k).2.2.1 = some (p_ty 7 k) := by decide +kernel
theorem pD7 : ∀ k, k < 4 → defaultValue (p_ty 7 k) = vp_V (p_df 7) k := by decide +kernel
theorem pY8 : ∀ k, k < 9 → parseFieldDescriptor (pT8 k).2.2.1 = some (p_ty 8 k) := by decide +kernel
theorem pD8 : ∀ k, k < 9 → defaultValue (p_ty 8 k) = vp_V (p_df 8) k := by decide +kernel
theorem pY9 : ∀ k, k < 34 → parseFieldDescriptor (pT9 k).2.2.1 = some (p_ty 9 k) := by decide +kernel
theorem pD9 : ∀ k, k < 34 → defaultValue (p_ty 9 k) = vp_V (p_df 9) k := by decide +kernel
def p_tb0 : am_T := [(0, .aload_n 0, 1, (0, 0, [], 0, 0)), (1, .invokespecial 3, 3, (0, 0, [], 10, 119)), (4, .aload_n 0, 1, (0, 0, [], 0, 0)), (5, .sipush 200, 3, (0, 0, [], 0, 0)), (8, .newarray .int, 2, (0, 0, [], 0, 0)), (10, .putfield 9, 3, (0, 0, [(1, 0)], 0, 120)), (13, .aload_n 0, 1, (0, 0, [], 0, 0)), (14, .iconst 0, 1, (0, 0, [], 0, 0)), (15, .putfield 15, 3, (0, 0, [(1, 1)], 0, 121)), (18, .aload_n 0, 1, (0, 0, [], 0, 0)), (19, .iconst 0, 1, (0, 0, [], 0, 0)), (20, .putfield 19, 3, (0, 0, [(1, 2)], 0, 122)), (23, .return_, 1, (0, 0, [], 0, 0))]
def p_tb1 : am_T := [(0, .aload_n 0, 1, (0, 0, [], 0, 0)), (1, .getfield 15, 3, (0, 0, [(1, 1)], 0, 121)), (4, .aload_n 0, 1, (0, 0, [], 0, 0)), (5, .getfield 9, 3, (0, 0, [(1, 0)], 0, 120)), (8, .arraylength, 1, (0, 0, [], 0, 0)), (9, .if_icmp .ge 20, 3, (29, 0, [], 0, 0)), (12, .aload_n 0, 1, (0, 0, [], 0, 0)), (13, .getfield 9, 3, (0, 0, [(1, 0)], 0, 120)), (16, .aload_n 0, 1, (0, 0, [], 0, 0)), (17, .dup, 1, (0, 0, [], 0, 0)), (18, .getfield 15, 3, (0, 0, [(1, 1)], 0, 121)), (21, .dup_x1, 1, (0, 0, [], 0, 0)), (22, .iconst 1, 1, (0, 0, [], 0, 0)), (23, .iadd, 1, (0, 0, [], 0, 0)), (24, .putfield 15, 3, (0, 0, [(1, 1)], 0, 121)), (27, .iload_n 1, 1, (0, 0, [], 0, 0)), (28, .iastore, 1, (0, 0, [], 0, 0)), (29, .return_, 1, (0, 0, [], 0, 0))]
def p_tb2 : am_T := [(0, .aload_n 0, 1, (0, 0, [], 0, 0)), (1, .getfield 15, 3, (0, 0, [(1, 1)], 0, 121)), (4, .iconst 1, 1, (0, 0, [], 0, 0)), (5, .isub, 1, (0, 0, [], 0, 0)), (6, .istore_n 2, 1, (0, 0, [], 0, 0)), (7, .iload_n 2, 1, (0, 0, [], 0, 0)), (8, .ifCond .lt 21, 3, (29, 0, [], 0, 0)), (11, .aload_n 0, 1, (0, 0, [], 0, 0)), (12, .getfield 9, 3, (0, 0, [(1, 0)], 0, 120)), (15, .iload_n 2, 1, (0, 0, [], 0, 0)), (16, .iaload, 1, (0, 0, [], 0, 0)), (17, .iload_n 1, 1, (0, 0, [], 0, 0)), (18, .if_icmp .ne 5, 3, (23, 0, [], 0, 0)), (21, .iconst 1, 1, (0, 0, [], 0, 0)), (22, .ireturn, 1, (0, 0, [], 0, 0)), (23, .iinc 2 (-1), 3, (0, 0, [], 0, 0)), (26, .goto (-19), 3, (7, 0, [], 0, 0)), (29, .iconst 0, 1, (0, 0, [], 0, 0)), (30, .ireturn, 1, (0, 0, [], 0, 0))]
def p_tb3 : am_T := [(0, .aload_n 0, 1, (0, 0, [], 0, 0)), (1, .getfield 15, 3, (0, 0, [(1, 1)], 0, 121)), (4, .ifCond .le 17, 3, (21, 0, [], 0, 0)), (7, .aload_n 0, 1, (0, 0, [], 0, 0)), (8, .getfield 9, 3, (0, 0, [(1, 0)], 0, 120)), (11, .aload_n 0, 1, (0, 0, [], 0, 0)), (12, .getfield 15, 3, (0, 0, [(1, 1)], 0, 121)), (15, .iconst 1, 1, (0, 0, [], 0, 0)), (16, .isub, 1, (0, 0, [], 0, 0)), (17, .iaload, 1, (0, 0, [], 0, 0)), (18, .goto 5, 3, (23, 0, [], 0, 0)), (21, .bipush (-6), 2, (0, 0, [], 0, 0)), (23, .ireturn, 1, (0, 0, [], 0, 0))]
def p_tb4 : am_T := [(0, .aload_n 0, 1, (0, 0, [], 0, 0)), (1, .getfield 15, 3, (0, 0, [(1, 1)], 0, 121)), (4, .ifCond .le 31, 3, (35, 0, [], 0, 0)), (7, .aload_n 0, 1, (0, 0, [], 0, 0)), (8, .getfield 9, 3, (0, 0, [(1, 0)], 0, 120)), (11, .aload_n 0, 1, (0, 0, [], 0, 0)), (12, .getfield 15, 3, (0, 0, [(1, 1)], 0, 121)), (15, .iconst 1, 1, (0, 0, [], 0, 0)), (16, .isub, 1, (0, 0, [], 0, 0)), (17, .iaload, 1, (0, 0, [], 0, 0)), (18, .iload_n 1, 1, (0, 0, [], 0, 0)), (19, .if_icmp .lt 16, 3, (35, 0, [], 0, 0)), (22, .aload_n 0, 1, (0, 0, [], 0, 0)), (23, .dup, 1, (0, 0, [], 0, 0)), (24, .getfield 15, 3, (0, 0, [(1, 1)], 0, 121)), (27, .iconst 1, 1, (0, 0, [], 0, 0)), (28, .isub, 1, (0, 0, [], 0, 0)), (29, .putfield 15, 3, (0, 0, [(1, 1)], 0, 121)), (32, .goto (-32), 3, (0, 0, [], 0, 0)), (35, .return_, 1, (0, 0, [], 0, 0))]
def p_tb5 : am_T := [(0, .aload_n 0, 1, (0, 0, [], 0, 0)), (1, .iconst 5, 1, (0, 0, [], 0, 0)), (2, .invokespecial 1, 3, (23, 1, [], 2, 96)), (5, .return_, 1, (0, 0, [], 0, 0))]
def p_tb6 : am_T := [(0, .aload_n 0, 1, (0, 0, [], 0, 0)), (1, .invokevirtual 7, 3, (28, 0, [(2, 0)], 5, 431)), (4, .istore 6, 2, (0, 0, [], 0, 0)), (6, .aload_n 0, 1, (0, 0, [], 0, 0)), (7, .iload 6, 2, (0, 0, [], 0, 0)), (9, .iconst 0, 1, (0, 0, [], 0, 0)), (10, .iload_n 1, 1, (0, 0, [], 0, 0)), (11, .invokevirtual 13, 3, (27, 3, [(2, 0)], 5, 447)), (14, .aload_n 0, 1, (0, 0, [], 0, 0)), (15, .iload 6, 2, (0, 0, [], 0, 0)), (17, .iconst 1, 1, (0, 0, [], 0, 0)), (18, .iload_n 2, 1, (0, 0, [], 0, 0)), (19, .invokevirtual 13, 3, (27, 3, [(2, 0)], 5, 447)), (22, .aload_n 0, 1, (0, 0, [], 0, 0)), (23, .iload 6, 2, (0, 0, [], 0, 0)), (25, .iconst 2, 1, (0, 0, [], 0, 0)), (26, .iload_n 3, 1, (0, 0, [], 0, 0)), (27, .invokevirtual 13, 3, (27, 3, [(2, 0)], 5, 447)), (30, .aload_n 0, 1, (0, 0, [], 0, 0)), (31, .iload 6, 2, (0, 0, [], 0, 0)), (33, .iconst 3, 1, (0, 0, [], 0, 0)), (34, .iload 4, 2, (0, 0, [], 0, 0)), (36, .invokevirtual 13, 3, (27, 3, [(2, 0)], 5, 447)), (39, .aload_n 0, 1, (0, 0, [], 0, 0)), (40, .iload 6, 2, (0, 0, [], 0, 0)), (42, .iconst 4, 1, (0, 0, [], 0, 0)), (43, .iload 5, 2, (0, 0, [], 0, 0)), (45, .invokevirtual 13, 3, (27, 3, [(2, 0)], 5, 447)), (48, .return_, 1, (0, 0, [], 0, 0))]
def p_tb7 : am_T := [(0, .aload_n 0, 1, (0, 0, [], 0, 0)), (1, .iconst 4, 1, (0, 0, [], 0, 0)), (2, .invokespecial 1, 3, (23, 1, [], 2, 180)), (5, .return_, 1, (0, 0, [], 0, 0))]
def p_tb8 : am_T := [(0, .aload_n 0, 1, (0, 0, [], 0, 0)), (1, .iload_n 3, 1, (0, 0, [], 0, 0)), (2, .iload 4, 2, (0, 0, [], 0, 0)), (4, .invokevirtual 7, 3, (9, 2, [(3, 0)], 4, 501)), (7, .ifCond .eq 5, 3, (12, 0, [], 0, 0)), (10, .iconst 0, 1, (0, 0, [], 0, 0)), (11, .ireturn, 1, (0, 0, [], 0, 0)), (12, .aload_n 0, 1, (0, 0, [], 0, 0)), (13, .invokevirtual 13, 3, (28, 0, [(3, 0)], 5, 511)), (16, .istore 5, 2, (0, 0, [], 0, 0)), (18, .aload_n 0, 1, (0, 0, [], 0, 0)), (19, .iload 5, 2, (0, 0, [], 0, 0)), (21, .iconst 0, 1, (0, 0, [], 0, 0)), (22, .iload_n 1, 1, (0, 0, [], 0, 0)), (23, .invokevirtual 17, 3, (27, 3, [(3, 0)], 5, 514)), (26, .aload_n 0, 1, (0, 0, [], 0, 0)), (27, .iload 5, 2, (0, 0, [], 0, 0)), (29, .iconst 1, 1, (0, 0, [], 0, 0)), (30, .iload_n 2, 1, (0, 0, [], 0, 0)), (31, .invokevirtual 17, 3, (27, 3, [(3, 0)], 5, 514)), (34, .aload_n 0, 1, (0, 0, [], 0, 0)), (35, .iload 5, 2, (0, 0, [], 0, 0)), (37, .iconst 2, 1, (0, 0, [], 0, 0)), (38, .iload_n 3, 1, (0, 0, [], 0, 0)), (39, .invokevirtual 17, 3, (27, 3, [(3, 0)], 5, 514)), (42, .aload_n 0, 1, (0, 0, [], 0, 0)), (43, .iload 5, 2, (0, 0, [], 0, 0)), (45, .iconst 3, 1, (0, 0, [], 0, 0)), (46, .iload 4, 2, (0, 0, [], 0, 0)), (48, .invokevirtual 17, 3, (27, 3, [(3, 0)], 5, 514)), (51, .iconst 1, 1, (0, 0, [], 0, 0)), (52, .ireturn, 1, (0, 0, [], 0, 0))]
def p_tb9 : am_T := [(0, .aload_n 0, 1, (0, 0, [], 0, 0)), (1, .invokevirtual 21, 3, (24, 0, [(3, 0)], 5, 505)), (4, .iconst 1, 1, (0, 0, [], 0, 0)), (5, .isub, 1, (0, 0, [], 0, 0)), (6, .istore_n 3, 1, (0, 0, [], 0, 0)), (7, .iload_n 3, 1, (0, 0, [], 0, 0)), (8, .ifCond .lt 43, 3, (51, 0, [], 0, 0)), (11, .aload_n 0, 1, (0, 0, [], 0, 0)), (12, .iload_n 3, 1, (0, 0, [], 0, 0)), (13, .iconst 2, 1, (0, 0, [], 0, 0)), (14, .invokevirtual 24, 3, (26, 2, [(3, 0)], 5, 508)), (17, .istore 4, 2, (0, 0, [], 0, 0)), (19, .iload 4, 2, (0, 0, [], 0, 0)), (21, .iload_n 1, 1, (0, 0, [], 0, 0)), (22, .if_icmp .ne 15, 3, (37, 0, [], 0, 0)), (25, .aload_n 0, 1, (0, 0, [], 0, 0)), (26, .iload_n 3, 1, (0, 0, [], 0, 0)), (27, .iconst 3, 1, (0, 0, [], 0, 0)), (28, .invokevirtual 24, 3, (26, 2, [(3, 0)], 5, 508)), (31, .iload_n 2, 1, (0, 0, [], 0, 0)), (32, .if_icmp .ne 5, 3, (37, 0, [], 0, 0)), (35, .iconst 1, 1, (0, 0, [], 0, 0)), (36, .ireturn, 1, (0, 0, [], 0, 0)), (37, .iload 4, 2, (0, 0, [], 0, 0)), (39, .iload_n 1, 1, (0, 0, [], 0, 0)), (40, .if_icmp .ge 5, 3, (45, 0, [], 0, 0)), (43, .iconst 0, 1, (0, 0, [], 0, 0)), (44, .ireturn, 1, (0, 0, [], 0, 0)), (45, .iinc 3 (-1), 3, (0, 0, [], 0, 0)), (48, .goto (-41), 3, (7, 0, [], 0, 0)), (51, .iconst 0, 1, (0, 0, [], 0, 0)), (52, .ireturn, 1, (0, 0, [], 0, 0))]
def p_tb10 : am_T := [(0, .aload_n 0, 1, (0, 0, [], 0, 0)), (1, .invokespecial 3, 3, (0, 0, [], 10, 172)), (4, .aload_n 0, 1, (0, 0, [], 0, 0)), (5, .bipush 20, 2, (0, 0, [], 0, 0)), (7, .newarray .int, 2, (0, 0, [], 0, 0)), (9, .putfield 9, 3, (0, 0, [(4, 2)], 0, 216)), (12, .aload_n 0, 1, (0, 0, [], 0, 0)), (13, .bipush 20, 2, (0, 0, [], 0, 0)), (15, .newarray .int, 2, (0, 0, [], 0, 0)), (17, .putfield 15, 3, (0, 0, [(4, 3)], 0, 218)), (20, .aload_n 0, 1, (0, 0, [], 0, 0)), (21, .iconst 0, 1, (0, 0, [], 0, 0)), (22, .putfield 18, 3, (0, 0, [(4, 4)], 0, 220)), (25, .aload_n 0, 1, (0, 0, [], 0, 0)), (26, .new 22, 3, (0, 0, [], 0, 0)), (29, .dup, 1, (0, 0, [], 0, 0)), (30, .invokespecial 24, 3, (115, 0, [], 2, 174)), (33, .putfield 25, 3, (0, 0, [(4, 5)], 0, 222)), (36, .aload_n 0, 1, (0, 0, [], 0, 0)), (37, .iconst 0, 1, (0, 0, [], 0, 0)), (38, .putfield 29, 3, (0, 0, [(4, 6)], 0, 224)), (41, .aload_n 0, 1, (0, 0, [], 0, 0)), (42, .iconst 0, 1, (0, 0, [], 0, 0)), (43, .putfield 32, 3, (0, 0, [(4, 7)], 0, 226)), (46, .aload_n 0, 1, (0, 0, [], 0, 0)), (47, .new 35, 3, (3, 0, [], 0, 0)), (50, .dup, 1, (0, 0, [], 0, 0)), (51, .invokespecial 37, 3, (7, 0, [], 2, 177)), (54, .putfield 38, 3, (0, 0, [(4, 8)], 0, 228)), (57, .aload_n 0, 1, (0, 0, [], 0, 0)), (58, .new 42, 3, (7, 0, [], 0, 0)), (61, .dup, 1, (0, 0, [], 0, 0)), (62, .invokespecial 44, 3, (29, 0, [], 2, 187)), (65, .putfield 45, 3, (0, 0, [(4, 9)], 0, 230)), (68, .aload_n 0, 1, (0, 0, [], 0, 0)), (69, .iload_n 1, 1, (0, 0, [], 0, 0)), (70, .putfield 49, 3, (0, 0, [(4, 0)], 0, 212)), (73, .aload_n 0, 1, (0, 0, [], 0, 0)), (74, .iload_n 2, 1, (0, 0, [], 0, 0)), (75, .putfield 52, 3, (0, 0, [(4, 1)], 0, 214)), (78, .return_, 1, (0, 0, [], 0, 0))]
def p_tb11 : am_T := [(0, .aload_n 0, 1, (0, 0, [], 0, 0)), (1, .getfield 18, 3, (0, 0, [(4, 4)], 0, 220)), (4, .bipush 20, 2, (0, 0, [], 0, 0)), (6, .if_icmp .lt 5, 3, (11, 0, [], 0, 0)), (9, .iconst 0, 1, (0, 0, [], 0, 0)), (10, .ireturn, 1, (0, 0, [], 0, 0)), (11, .aload_n 0, 1, (0, 0, [], 0, 0)), (12, .getfield 9, 3, (0, 0, [(4, 2)], 0, 216)), (15, .aload_n 0, 1, (0, 0, [], 0, 0)), (16, .getfield 18, 3, (0, 0, [(4, 4)], 0, 220)), (19, .iload_n 1, 1, (0, 0, [], 0, 0)), (20, .iastore, 1, (0, 0, [], 0, 0)), (21, .aload_n 0, 1, (0, 0, [], 0, 0)), (22, .getfield 15, 3, (0, 0, [(4, 3)], 0, 218)), (25, .aload_n 0, 1, (0, 0, [], 0, 0)), (26, .getfield 18, 3, (0, 0, [(4, 4)], 0, 220)), (29, .iload_n 2, 1, (0, 0, [], 0, 0)), (30, .iastore, 1, (0, 0, [], 0, 0)), (31, .aload_n 0, 1, (0, 0, [], 0, 0)), (32, .dup, 1, (0, 0, [], 0, 0)), (33, .getfield 18, 3, (0, 0, [(4, 4)], 0, 220)), (36, .iconst 1, 1, (0, 0, [], 0, 0)), (37, .iadd, 1, (0, 0, [], 0, 0)), (38, .putfield 18, 3, (0, 0, [(4, 4)], 0, 220)), (41, .iconst 1, 1, (0, 0, [], 0, 0)), (42, .ireturn, 1, (0, 0, [], 0, 0))]
def p_tb12 : am_T := [(0, .iload_n 1, 1, (0, 0, [], 0, 0)), (1, .ifCond .lt 14, 3, (15, 0, [], 0, 0)), (4, .iload_n 1, 1, (0, 0, [], 0, 0)), (5, .aload_n 0, 1, (0, 0, [], 0, 0)), (6, .getfield 25, 3, (0, 0, [(4, 5)], 0, 222)), (9, .invokevirtual 55, 3, (118, 0, [(0, 0)], 4, 571)), (12, .if_icmp .lt 7, 3, (19, 0, [], 0, 0)), (15, .aconst_null, 1, (0, 0, [], 0, 0)), (16, .goto 14, 3, (30, 0, [], 0, 0)), (19, .aload_n 0, 1, (0, 0, [], 0, 0)), (20, .getfield 25, 3, (0, 0, [(4, 5)], 0, 222)), (23, .iload_n 1, 1, (0, 0, [], 0, 0)), (24, .invokevirtual 59, 3, (120, 1, [(0, 0)], 4, 572)), (27, .checkcast 63, 3, (5, 0, [], 0, 0)), (30, .areturn, 1, (0, 0, [], 0, 0))]
def p_tb13 : am_T := [(0, .iconst 0, 1, (0, 0, [], 0, 0)), (1, .istore_n 1, 1, (0, 0, [], 0, 0)), (2, .iconst 0, 1, (0, 0, [], 0, 0)), (3, .istore_n 2, 1, (0, 0, [], 0, 0)), (4, .iload_n 2, 1, (0, 0, [], 0, 0)), (5, .aload_n 0, 1, (0, 0, [], 0, 0)), (6, .getfield 25, 3, (0, 0, [(4, 5)], 0, 222)), (9, .invokevirtual 55, 3, (118, 0, [(0, 0)], 4, 571)), (12, .if_icmp .ge 30, 3, (42, 0, [], 0, 0)), (15, .aload_n 0, 1, (0, 0, [], 0, 0)), (16, .getfield 25, 3, (0, 0, [(4, 5)], 0, 222)), (19, .iload_n 2, 1, (0, 0, [], 0, 0)), (20, .invokevirtual 59, 3, (120, 1, [(0, 0)], 4, 572)), (23, .checkcast 63, 3, (5, 0, [], 0, 0)), (26, .getfield 65, 3, (1, 0, [(5, 4)], 0, 394)), (29, .iconst 1, 1, (0, 0, [], 0, 0)), (30, .if_icmp .ne 6, 3, (36, 0, [], 0, 0)), (33, .iinc 1 1, 3, (0, 0, [], 0, 0)), (36, .iinc 2 1, 3, (0, 0, [], 0, 0)), (39, .goto (-35), 3, (4, 0, [], 0, 0)), (42, .iload_n 1, 1, (0, 0, [], 0, 0)), (43, .ireturn, 1, (0, 0, [], 0, 0))]
def p_tb14 : am_T := [(0, .aload_n 0, 1, (0, 0, [], 0, 0)), (1, .dup, 1, (0, 0, [], 0, 0)), (2, .getfield 29, 3, (0, 0, [(4, 6)], 0, 224)), (5, .iconst 1, 1, (0, 0, [], 0, 0)), (6, .iadd, 1, (0, 0, [], 0, 0)), (7, .putfield 29, 3, (0, 0, [(4, 6)], 0, 224)), (10, .aload_n 0, 1, (0, 0, [], 0, 0)), (11, .getfield 32, 3, (0, 0, [(4, 7)], 0, 226)), (14, .ifCond .ne 5, 3, (19, 0, [], 0, 0)), (17, .iconst 0, 1, (0, 0, [], 0, 0)), (18, .ireturn, 1, (0, 0, [], 0, 0)), (19, .aload_n 0, 1, (0, 0, [], 0, 0)), (20, .dup, 1, (0, 0, [], 0, 0)), (21, .getfield 32, 3, (0, 0, [(4, 7)], 0, 226)), (24, .iconst 1, 1, (0, 0, [], 0, 0)), (25, .isub, 1, (0, 0, [], 0, 0)), (26, .putfield 32, 3, (0, 0, [(4, 7)], 0, 226)), (29, .iconst 1, 1, (0, 0, [], 0, 0)), (30, .ireturn, 1, (0, 0, [], 0, 0))]
def p_tb15 : am_T := [(0, .iconst 0, 1, (0, 0, [], 0, 0)), (1, .istore_n 2, 1, (0, 0, [], 0, 0)), (2, .iload_n 2, 1, (0, 0, [], 0, 0)), (3, .aload_n 0, 1, (0, 0, [], 0, 0)), (4, .getfield 38, 3, (0, 0, [(4, 8)], 0, 228)), (7, .invokevirtual 68, 3, (24, 0, [(3, 0)], 5, 657)), (10, .if_icmp .ge 28, 3, (38, 0, [], 0, 0)), (13, .aload_n 0, 1, (0, 0, [], 0, 0)), (14, .aload_n 0, 1, (0, 0, [], 0, 0)), (15, .getfield 38, 3, (0, 0, [(4, 8)], 0, 228)), (18, .iload_n 2, 1, (0, 0, [], 0, 0)), (19, .iconst 2, 1, (0, 0, [], 0, 0)), (20, .invokevirtual 71, 3, (26, 2, [(3, 0)], 5, 658)), (23, .iload_n 1, 1, (0, 0, [], 0, 0)), (24, .invokevirtual 75, 3, (16, 2, [(4, 0)], 4, 659)), (27, .ifCond .ne 5, 3, (32, 0, [], 0, 0)), (30, .iconst 0, 1, (0, 0, [], 0, 0)), (31, .ireturn, 1, (0, 0, [], 0, 0)), (32, .iinc 2 1, 3, (0, 0, [], 0, 0)), (35, .goto (-33), 3, (2, 0, [], 0, 0)), (38, .iconst 0, 1, (0, 0, [], 0, 0)), (39, .istore_n 2, 1, (0, 0, [], 0, 0)), (40, .iload_n 2, 1, (0, 0, [], 0, 0)), (41, .bipush 10, 2, (0, 0, [], 0, 0)), (43, .if_icmp .ge 39, 3, (82, 0, [], 0, 0)), (46, .aload_n 0, 1, (0, 0, [], 0, 0)), (47, .getfield 45, 3, (0, 0, [(4, 9)], 0, 230)), (50, .iload_n 2, 1, (0, 0, [], 0, 0)), (51, .invokevirtual 79, 3, (30, 1, [(7, 0)], 4, 664)), (54, .ifCond .eq 22, 3, (76, 0, [], 0, 0)), (57, .aload_n 0, 1, (0, 0, [], 0, 0)), (58, .aload_n 0, 1, (0, 0, [], 0, 0)), (59, .getfield 45, 3, (0, 0, [(4, 9)], 0, 230)), (62, .getfield 83, 3, (1, 0, [(7, 1)], 0, 197)), (65, .iload_n 2, 1, (0, 0, [], 0, 0)), (66, .iaload, 1, (0, 0, [], 0, 0)), (67, .iload_n 1, 1, (0, 0, [], 0, 0)), (68, .invokevirtual 75, 3, (16, 2, [(4, 0)], 4, 659)), (71, .ifCond .ne 5, 3, (76, 0, [], 0, 0)), (74, .iconst 0, 1, (0, 0, [], 0, 0)), (75, .ireturn, 1, (0, 0, [], 0, 0)), (76, .iinc 2 1, 3, (0, 0, [], 0, 0)), (79, .goto (-39), 3, (40, 0, [], 0, 0)), (82, .iconst 1, 1, (0, 0, [], 0, 0)), (83, .ireturn, 1, (0, 0, [], 0, 0))]
def p_tb16 : am_T := [(0, .aload_n 0, 1, (0, 0, [], 0, 0)), (1, .iload_n 1, 1, (0, 0, [], 0, 0)), (2, .invokevirtual 85, 3, (12, 1, [(4, 0)], 4, 663)), (5, .astore_n 3, 1, (0, 0, [], 0, 0)), (6, .aload_n 3, 1, (0, 0, [], 0, 0)), (7, .ifnull 22, 3, (29, 0, [], 0, 0)), (10, .aload_n 3, 1, (0, 0, [], 0, 0)), (11, .getfield 65, 3, (1, 0, [(5, 4)], 0, 394)), (14, .ifCond .eq 15, 3, (29, 0, [], 0, 0)), (17, .aload_n 3, 1, (0, 0, [], 0, 0)), (18, .getfield 89, 3, (1, 0, [(5, 3)], 0, 391)), (21, .iload_n 2, 1, (0, 0, [], 0, 0)), (22, .if_icmp .gt 7, 3, (29, 0, [], 0, 0)), (25, .iconst 1, 1, (0, 0, [], 0, 0)), (26, .goto 4, 3, (30, 0, [], 0, 0)), (29, .iconst 0, 1, (0, 0, [], 0, 0)), (30, .ireturn, 1, (0, 0, [], 0, 0))]
def p_tb17 : am_T := [(0, .iconst 0, 1, (0, 0, [], 0, 0)), (1, .istore_n 1, 1, (0, 0, [], 0, 0)), (2, .iload_n 1, 1, (0, 0, [], 0, 0)), (3, .aload_n 0, 1, (0, 0, [], 0, 0)), (4, .getfield 25, 3, (0, 0, [(4, 5)], 0, 222)), (7, .invokevirtual 55, 3, (118, 0, [(0, 0)], 4, 571)), (10, .if_icmp .ge 24, 3, (34, 0, [], 0, 0)), (13, .aload_n 0, 1, (0, 0, [], 0, 0)), (14, .getfield 25, 3, (0, 0, [(4, 5)], 0, 222)), (17, .iload_n 1, 1, (0, 0, [], 0, 0)), (18, .invokevirtual 59, 3, (120, 1, [(0, 0)], 4, 572)), (21, .checkcast 63, 3, (5, 0, [], 0, 0)), (24, .iconst 0, 1, (0, 0, [], 0, 0)), (25, .putfield 92, 3, (1, 0, [(5, 5)], 0, 397)), (28, .iinc 1 1, 3, (0, 0, [], 0, 0)), (31, .goto (-29), 3, (2, 0, [], 0, 0)), (34, .iconst 0, 1, (0, 0, [], 0, 0)), (35, .istore_n 1, 1, (0, 0, [], 0, 0)), (36, .iload_n 1, 1, (0, 0, [], 0, 0)), (37, .aload_n 0, 1, (0, 0, [], 0, 0)), (38, .getfield 38, 3, (0, 0, [(4, 8)], 0, 228)), (41, .invokevirtual 68, 3, (24, 0, [(3, 0)], 5, 657)), (44, .if_icmp .ge 60, 3, (104, 0, [], 0, 0)), (47, .aload_n 0, 1, (0, 0, [], 0, 0)), (48, .aload_n 0, 1, (0, 0, [], 0, 0)), (49, .getfield 38, 3, (0, 0, [(4, 8)], 0, 228)), (52, .iload_n 1, 1, (0, 0, [], 0, 0)), (53, .iconst 2, 1, (0, 0, [], 0, 0)), (54, .invokevirtual 71, 3, (26, 2, [(3, 0)], 5, 658)), (57, .invokevirtual 85, 3, (12, 1, [(4, 0)], 4, 663)), (60, .astore_n 2, 1, (0, 0, [], 0, 0)), (61, .iconst 1, 1, (0, 0, [], 0, 0)), (62, .aload_n 0, 1, (0, 0, [], 0, 0)), (63, .getfield 38, 3, (0, 0, [(4, 8)], 0, 228)), (66, .iload_n 1, 1, (0, 0, [], 0, 0)), (67, .iconst 3, 1, (0, 0, [], 0, 0)), (68, .invokevirtual 71, 3, (26, 2, [(3, 0)], 5, 658)), (71, .ishl, 1, (0, 0, [], 0, 0)), (72, .istore_n 3, 1, (0, 0, [], 0, 0)), (73, .aload_n 2, 1, (0, 0, [], 0, 0)), (74, .ifnull 12, 3, (86, 0, [], 0, 0)), (77, .aload_n 2, 1, (0, 0, [], 0, 0)), (78, .getfield 92, 3, (1, 0, [(5, 5)], 0, 397)), (81, .iload_n 3, 1, (0, 0, [], 0, 0)), (82, .iand, 1, (0, 0, [], 0, 0)), (83, .ifCond .eq 5, 3, (88, 0, [], 0, 0)), (86, .iconst 0, 1, (0, 0, [], 0, 0)), (87, .ireturn, 1, (0, 0, [], 0, 0)), (88, .aload_n 2, 1, (0, 0, [], 0, 0)), (89, .dup, 1, (0, 0, [], 0, 0)), (90, .getfield 92, 3, (1, 0, [(5, 5)], 0, 397)), (93, .iload_n 3, 1, (0, 0, [], 0, 0)), (94, .ior, 1, (0, 0, [], 0, 0)), (95, .putfield 92, 3, (1, 0, [(5, 5)], 0, 397)), (98, .iinc 1 1, 3, (0, 0, [], 0, 0)), (101, .goto (-65), 3, (36, 0, [], 0, 0)), (104, .iconst 1, 1, (0, 0, [], 0, 0)), (105, .ireturn, 1, (0, 0, [], 0, 0))]
def p_tb18 : am_T := [(0, .aload_n 0, 1, (0, 0, [], 0, 0)), (1, .getfield 52, 3, (0, 0, [(4, 1)], 0, 214)), (4, .ifCond .eq 5, 3, (9, 0, [], 0, 0)), (7, .iconst 1, 1, (0, 0, [], 0, 0)), (8, .ireturn, 1, (0, 0, [], 0, 0)), (9, .iconst 0, 1, (0, 0, [], 0, 0)), (10, .istore_n 1, 1, (0, 0, [], 0, 0)), (11, .iload_n 1, 1, (0, 0, [], 0, 0)), (12, .aload_n 0, 1, (0, 0, [], 0, 0)), (13, .getfield 25, 3, (0, 0, [(4, 5)], 0, 222)), (16, .invokevirtual 55, 3, (118, 0, [(0, 0)], 4, 571)), (19, .if_icmp .ge 24, 3, (43, 0, [], 0, 0)), (22, .aload_n 0, 1, (0, 0, [], 0, 0)), (23, .getfield 25, 3, (0, 0, [(4, 5)], 0, 222)), (26, .iload_n 1, 1, (0, 0, [], 0, 0)), (27, .invokevirtual 59, 3, (120, 1, [(0, 0)], 4, 572)), (30, .checkcast 63, 3, (5, 0, [], 0, 0)), (33, .iconst 0, 1, (0, 0, [], 0, 0)), (34, .putfield 95, 3, (1, 0, [(5, 6)], 0, 399)), (37, .iinc 1 1, 3, (0, 0, [], 0, 0)), (40, .goto (-29), 3, (11, 0, [], 0, 0)), (43, .iconst 0, 1, (0, 0, [], 0, 0)), (44, .istore_n 1, 1, (0, 0, [], 0, 0)), (45, .iload_n 1, 1, (0, 0, [], 0, 0)), (46, .aload_n 0, 1, (0, 0, [], 0, 0)), (47, .getfield 38, 3, (0, 0, [(4, 8)], 0, 228)), (50, .invokevirtual 68, 3, (24, 0, [(3, 0)], 5, 657)), (53, .if_icmp .ge 53, 3, (106, 0, [], 0, 0)), (56, .aload_n 0, 1, (0, 0, [], 0, 0)), (57, .aload_n 0, 1, (0, 0, [], 0, 0)), (58, .getfield 38, 3, (0, 0, [(4, 8)], 0, 228)), (61, .iload_n 1, 1, (0, 0, [], 0, 0)), (62, .iconst 2, 1, (0, 0, [], 0, 0)), (63, .invokevirtual 71, 3, (26, 2, [(3, 0)], 5, 658)), (66, .invokevirtual 85, 3, (12, 1, [(4, 0)], 4, 663)), (69, .astore_n 2, 1, (0, 0, [], 0, 0)), (70, .aload_n 2, 1, (0, 0, [], 0, 0)), (71, .ifnull 29, 3, (100, 0, [], 0, 0)), (74, .aload_n 2, 1, (0, 0, [], 0, 0)), (75, .getfield 95, 3, (1, 0, [(5, 6)], 0, 399)), (78, .aload_n 0, 1, (0, 0, [], 0, 0)), (79, .getfield 38, 3, (0, 0, [(4, 8)], 0, 228)), (82, .iload_n 1, 1, (0, 0, [], 0, 0)), (83, .iconst 3, 1, (0, 0, [], 0, 0)), (84, .invokevirtual 71, 3, (26, 2, [(3, 0)], 5, 658)), (87, .if_icmp .ne 13, 3, (100, 0, [], 0, 0)), (90, .aload_n 2, 1, (0, 0, [], 0, 0)), (91, .dup, 1, (0, 0, [], 0, 0)), (92, .getfield 95, 3, (1, 0, [(5, 6)], 0, 399)), (95, .iconst 1, 1, (0, 0, [], 0, 0)), (96, .iadd, 1, (0, 0, [], 0, 0)), (97, .putfield 95, 3, (1, 0, [(5, 6)], 0, 399)), (100, .iinc 1 1, 3, (0, 0, [], 0, 0)), (103, .goto (-58), 3, (45, 0, [], 0, 0)), (106, .iconst 0, 1, (0, 0, [], 0, 0)), (107, .istore_n 1, 1, (0, 0, [], 0, 0)), (108, .iload_n 1, 1, (0, 0, [], 0, 0)), (109, .aload_n 0, 1, (0, 0, [], 0, 0)), (110, .getfield 25, 3, (0, 0, [(4, 5)], 0, 222)), (113, .invokevirtual 55, 3, (118, 0, [(0, 0)], 4, 571)), (116, .if_icmp .ge 42, 3, (158, 0, [], 0, 0)), (119, .aload_n 0, 1, (0, 0, [], 0, 0)), (120, .getfield 25, 3, (0, 0, [(4, 5)], 0, 222)), (123, .iload_n 1, 1, (0, 0, [], 0, 0)), (124, .invokevirtual 59, 3, (120, 1, [(0, 0)], 4, 572)), (127, .checkcast 63, 3, (5, 0, [], 0, 0)), (130, .astore_n 2, 1, (0, 0, [], 0, 0)), (131, .aload_n 2, 1, (0, 0, [], 0, 0)), (132, .getfield 65, 3, (1, 0, [(5, 4)], 0, 394)), (135, .iconst 2, 1, (0, 0, [], 0, 0)), (136, .if_icmp .ne 16, 3, (152, 0, [], 0, 0)), (139, .aload_n 2, 1, (0, 0, [], 0, 0)), (140, .getfield 95, 3, (1, 0, [(5, 6)], 0, 399)), (143, .aload_n 2, 1, (0, 0, [], 0, 0)), (144, .getfield 98, 3, (1, 0, [(5, 2)], 0, 388)), (147, .if_icmp .eq 5, 3, (152, 0, [], 0, 0)), (150, .iconst 0, 1, (0, 0, [], 0, 0)), (151, .ireturn, 1, (0, 0, [], 0, 0)), (152, .iinc 1 1, 3, (0, 0, [], 0, 0)), (155, .goto (-47), 3, (108, 0, [], 0, 0)), (158, .iconst 1, 1, (0, 0, [], 0, 0)), (159, .ireturn, 1, (0, 0, [], 0, 0))]
def p_tb19 : am_T := [(0, .aload_n 0, 1, (0, 0, [], 0, 0)), (1, .getfield 52, 3, (0, 0, [(4, 1)], 0, 214)), (4, .iconst 1, 1, (0, 0, [], 0, 0)), (5, .if_icmp .eq 5, 3, (10, 0, [], 0, 0)), (8, .iconst 1, 1, (0, 0, [], 0, 0)), (9, .ireturn, 1, (0, 0, [], 0, 0)), (10, .iconst 0, 1, (0, 0, [], 0, 0)), (11, .istore_n 2, 1, (0, 0, [], 0, 0)), (12, .iload_n 2, 1, (0, 0, [], 0, 0)), (13, .aload_n 0, 1, (0, 0, [], 0, 0)), (14, .getfield 25, 3, (0, 0, [(4, 5)], 0, 222)), (17, .invokevirtual 55, 3, (118, 0, [(0, 0)], 4, 571)), (20, .if_icmp .ge 89, 3, (109, 0, [], 0, 0)), (23, .aload_n 0, 1, (0, 0, [], 0, 0)), (24, .getfield 25, 3, (0, 0, [(4, 5)], 0, 222)), (27, .iload_n 2, 1, (0, 0, [], 0, 0)), (28, .invokevirtual 59, 3, (120, 1, [(0, 0)], 4, 572)), (31, .checkcast 63, 3, (5, 0, [], 0, 0)), (34, .astore_n 3, 1, (0, 0, [], 0, 0)), (35, .iconst 0, 1, (0, 0, [], 0, 0)), (36, .istore 4, 2, (0, 0, [], 0, 0)), (38, .aload_n 3, 1, (0, 0, [], 0, 0)), (39, .getfield 65, 3, (1, 0, [(5, 4)], 0, 394)), (42, .iconst 2, 1, (0, 0, [], 0, 0)), (43, .if_icmp .ne 60, 3, (103, 0, [], 0, 0)), (46, .iload 4, 2, (0, 0, [], 0, 0)), (48, .aload_n 3, 1, (0, 0, [], 0, 0)), (49, .getfield 98, 3, (1, 0, [(5, 2)], 0, 388)), (52, .if_icmp .ge 51, 3, (103, 0, [], 0, 0)), (55, .aload_n 1, 1, (0, 0, [], 0, 0)), (56, .aload_n 3, 1, (0, 0, [], 0, 0)), (57, .getfield 101, 3, (1, 0, [(5, 1)], 0, 385)), (60, .iload 4, 2, (0, 0, [], 0, 0)), (62, .iadd, 1, (0, 0, [], 0, 0)), (63, .iconst 3, 1, (0, 0, [], 0, 0)), (64, .invokevirtual 106, 3, (26, 2, [(2, 0)], 5, 677)), (67, .istore 5, 2, (0, 0, [], 0, 0)), (69, .aload_n 0, 1, (0, 0, [], 0, 0)), (70, .getfield 45, 3, (0, 0, [(4, 9)], 0, 230)), (73, .iload 5, 2, (0, 0, [], 0, 0)), (75, .invokevirtual 79, 3, (30, 1, [(7, 0)], 4, 664)), (78, .ifCond .eq 17, 3, (95, 0, [], 0, 0)), (81, .aload_n 0, 1, (0, 0, [], 0, 0)), (82, .getfield 45, 3, (0, 0, [(4, 9)], 0, 230)), (85, .getfield 83, 3, (1, 0, [(7, 1)], 0, 197)), (88, .iload 5, 2, (0, 0, [], 0, 0)), (90, .iaload, 1, (0, 0, [], 0, 0)), (91, .iload_n 2, 1, (0, 0, [], 0, 0)), (92, .if_icmp .ge 5, 3, (97, 0, [], 0, 0)), (95, .iconst 0, 1, (0, 0, [], 0, 0)), (96, .ireturn, 1, (0, 0, [], 0, 0)), (97, .iinc 4 1, 3, (0, 0, [], 0, 0)), (100, .goto (-62), 3, (38, 0, [], 0, 0)), (103, .iinc 2 1, 3, (0, 0, [], 0, 0)), (106, .goto (-94), 3, (12, 0, [], 0, 0)), (109, .iconst 1, 1, (0, 0, [], 0, 0)), (110, .ireturn, 1, (0, 0, [], 0, 0))]
def p_tb20 : am_T := [(0, .aload_n 0, 1, (0, 0, [], 0, 0)), (1, .invokespecial 3, 3, (0, 0, [], 10, 381)), (4, .aload_n 0, 1, (0, 0, [], 0, 0)), (5, .iconst 0, 1, (0, 0, [], 0, 0)), (6, .putfield 9, 3, (0, 0, [(5, 2)], 0, 387)), (9, .aload_n 0, 1, (0, 0, [], 0, 0)), (10, .bipush (-6), 2, (0, 0, [], 0, 0)), (12, .putfield 15, 3, (0, 0, [(5, 3)], 0, 390)), (15, .aload_n 0, 1, (0, 0, [], 0, 0)), (16, .iconst 0, 1, (0, 0, [], 0, 0)), (17, .putfield 18, 3, (0, 0, [(5, 4)], 0, 393)), (20, .aload_n 0, 1, (0, 0, [], 0, 0)), (21, .iconst 0, 1, (0, 0, [], 0, 0)), (22, .putfield 21, 3, (0, 0, [(5, 5)], 0, 396)), (25, .aload_n 0, 1, (0, 0, [], 0, 0)), (26, .iconst 0, 1, (0, 0, [], 0, 0)), (27, .putfield 24, 3, (0, 0, [(5, 6)], 0, 398)), (30, .aload_n 0, 1, (0, 0, [], 0, 0)), (31, .iload_n 1, 1, (0, 0, [], 0, 0)), (32, .putfield 27, 3, (0, 0, [(5, 0)], 0, 382)), (35, .aload_n 0, 1, (0, 0, [], 0, 0)), (36, .iload_n 2, 1, (0, 0, [], 0, 0)), (37, .putfield 30, 3, (0, 0, [(5, 1)], 0, 384)), (40, .return_, 1, (0, 0, [], 0, 0))]
def p_tb21 : am_T := [(0, .aload_n 0, 1, (0, 0, [], 0, 0)), (1, .invokespecial 3, 3, (0, 0, [], 10, 606)), (4, .aload_n 0, 1, (0, 0, [], 0, 0)), (5, .bipush 10, 2, (0, 0, [], 0, 0)), (7, .newarray .int, 2, (0, 0, [], 0, 0)), (9, .putfield 9, 3, (0, 0, [(6, 1)], 0, 608)), (12, .aload_n 0, 1, (0, 0, [], 0, 0)), (13, .iconst 0, 1, (0, 0, [], 0, 0)), (14, .putfield 15, 3, (0, 0, [(6, 2)], 0, 610)), (17, .aload_n 0, 1, (0, 0, [], 0, 0)), (18, .aload_n 1, 1, (0, 0, [], 0, 0)), (19, .putfield 19, 3, (0, 0, [(6, 0)], 0, 607)), (22, .return_, 1, (0, 0, [], 0, 0))]
def p_tb22 : am_T := [(0, .iconst 0, 1, (0, 0, [], 0, 0)), (1, .istore_n 2, 1, (0, 0, [], 0, 0)), (2, .iload_n 2, 1, (0, 0, [], 0, 0)), (3, .iload_n 1, 1, (0, 0, [], 0, 0)), (4, .if_icmp .ge 63, 3, (67, 0, [], 0, 0)), (7, .aload_n 0, 1, (0, 0, [], 0, 0)), (8, .getfield 15, 3, (0, 0, [(6, 2)], 0, 610)), (11, .aload_n 0, 1, (0, 0, [], 0, 0)), (12, .getfield 19, 3, (0, 0, [(6, 0)], 0, 607)), (15, .invokevirtual 23, 3, (24, 0, [(3, 0)], 5, 631)), (18, .if_icmp .ge 49, 3, (67, 0, [], 0, 0)), (21, .aload_n 0, 1, (0, 0, [], 0, 0)), (22, .getfield 19, 3, (0, 0, [(6, 0)], 0, 607)), (25, .aload_n 0, 1, (0, 0, [], 0, 0)), (26, .getfield 15, 3, (0, 0, [(6, 2)], 0, 610)), (29, .iconst 0, 1, (0, 0, [], 0, 0)), (30, .invokevirtual 29, 3, (26, 2, [(3, 0)], 5, 632)), (33, .istore_n 3, 1, (0, 0, [], 0, 0)), (34, .iload_n 3, 1, (0, 0, [], 0, 0)), (35, .invokestatic 33, 3, (55, 1, [], 1, 633)), (38, .ifCond .eq 13, 3, (51, 0, [], 0, 0)), (41, .aload_n 0, 1, (0, 0, [], 0, 0)), (42, .getfield 9, 3, (0, 0, [(6, 1)], 0, 608)), (45, .iload_n 3, 1, (0, 0, [], 0, 0)), (46, .dup2, 1, (0, 0, [], 0, 0)), (47, .iaload, 1, (0, 0, [], 0, 0)), (48, .iconst 1, 1, (0, 0, [], 0, 0)), (49, .iadd, 1, (0, 0, [], 0, 0)), (50, .iastore, 1, (0, 0, [], 0, 0)), (51, .aload_n 0, 1, (0, 0, [], 0, 0)), (52, .dup, 1, (0, 0, [], 0, 0)), (53, .getfield 15, 3, (0, 0, [(6, 2)], 0, 610)), (56, .iconst 1, 1, (0, 0, [], 0, 0)), (57, .iadd, 1, (0, 0, [], 0, 0)), (58, .putfield 15, 3, (0, 0, [(6, 2)], 0, 610)), (61, .iinc 2 1, 3, (0, 0, [], 0, 0)), (64, .goto (-62), 3, (2, 0, [], 0, 0)), (67, .iload_n 2, 1, (0, 0, [], 0, 0)), (68, .ireturn, 1, (0, 0, [], 0, 0))]
def p_tb23 : am_T := [(0, .aload_n 0, 1, (0, 0, [], 0, 0)), (1, .invokespecial 3, 3, (0, 0, [], 10, 99)), (4, .aload_n 0, 1, (0, 0, [], 0, 0)), (5, .iconst 0, 1, (0, 0, [], 0, 0)), (6, .putfield 9, 3, (0, 0, [(2, 2), (3, 2)], 0, 105)), (9, .aload_n 0, 1, (0, 0, [], 0, 0)), (10, .iconst 1, 1, (0, 0, [], 0, 0)), (11, .iload_n 1, 1, (0, 0, [], 0, 0)), (12, .invokestatic 15, 3, (111, 2, [], 0, 100)), (15, .putfield 21, 3, (0, 0, [(2, 0), (3, 0)], 0, 103)), (18, .aload_n 0, 1, (0, 0, [], 0, 0)), (19, .aload_n 0, 1, (0, 0, [], 0, 0)), (20, .getfield 21, 3, (0, 0, [(2, 0), (3, 0)], 0, 103)), (23, .bipush 32, 2, (0, 0, [], 0, 0)), (25, .imul, 1, (0, 0, [], 0, 0)), (26, .newarray .int, 2, (0, 0, [], 0, 0)), (28, .putfield 24, 3, (0, 0, [(2, 1), (3, 1)], 0, 104)), (31, .return_, 1, (0, 0, [], 0, 0))]
def p_tb24 : am_T := [(0, .aload_n 0, 1, (0, 0, [], 0, 0)), (1, .getfield 9, 3, (0, 0, [(2, 2), (3, 2)], 0, 105)), (4, .ireturn, 1, (0, 0, [], 0, 0))]
def p_tb25 : am_T := [(0, .iload_n 1, 1, (0, 0, [], 0, 0)), (1, .ifCond .lt 27, 3, (28, 0, [], 0, 0)), (4, .iload_n 1, 1, (0, 0, [], 0, 0)), (5, .aload_n 0, 1, (0, 0, [], 0, 0)), (6, .getfield 9, 3, (0, 0, [(2, 2), (3, 2)], 0, 105)), (9, .if_icmp .ge 19, 3, (28, 0, [], 0, 0)), (12, .iload_n 2, 1, (0, 0, [], 0, 0)), (13, .ifCond .lt 15, 3, (28, 0, [], 0, 0)), (16, .iload_n 2, 1, (0, 0, [], 0, 0)), (17, .aload_n 0, 1, (0, 0, [], 0, 0)), (18, .getfield 21, 3, (0, 0, [(2, 0), (3, 0)], 0, 103)), (21, .if_icmp .ge 7, 3, (28, 0, [], 0, 0)), (24, .iconst 1, 1, (0, 0, [], 0, 0)), (25, .goto 4, 3, (29, 0, [], 0, 0)), (28, .iconst 0, 1, (0, 0, [], 0, 0)), (29, .ireturn, 1, (0, 0, [], 0, 0))]
def p_tb26 : am_T := [(0, .aload_n 0, 1, (0, 0, [], 0, 0)), (1, .iload_n 1, 1, (0, 0, [], 0, 0)), (2, .iload_n 2, 1, (0, 0, [], 0, 0)), (3, .invokevirtual 28, 3, (25, 2, [(2, 0), (3, 0)], 5, 453)), (6, .ifCond .eq 19, 3, (25, 0, [], 0, 0)), (9, .aload_n 0, 1, (0, 0, [], 0, 0)), (10, .getfield 24, 3, (0, 0, [(2, 1), (3, 1)], 0, 104)), (13, .iload_n 1, 1, (0, 0, [], 0, 0)), (14, .aload_n 0, 1, (0, 0, [], 0, 0)), (15, .getfield 21, 3, (0, 0, [(2, 0), (3, 0)], 0, 103)), (18, .imul, 1, (0, 0, [], 0, 0)), (19, .iload_n 2, 1, (0, 0, [], 0, 0)), (20, .iadd, 1, (0, 0, [], 0, 0)), (21, .iaload, 1, (0, 0, [], 0, 0)), (22, .goto 5, 3, (27, 0, [], 0, 0)), (25, .bipush (-6), 2, (0, 0, [], 0, 0)), (27, .ireturn, 1, (0, 0, [], 0, 0))]
def p_tb27 : am_T := [(0, .aload_n 0, 1, (0, 0, [], 0, 0)), (1, .iload_n 1, 1, (0, 0, [], 0, 0)), (2, .iload_n 2, 1, (0, 0, [], 0, 0)), (3, .invokevirtual 28, 3, (25, 2, [(2, 0), (3, 0)], 5, 453)), (6, .ifCond .eq 17, 3, (23, 0, [], 0, 0)), (9, .aload_n 0, 1, (0, 0, [], 0, 0)), (10, .getfield 24, 3, (0, 0, [(2, 1), (3, 1)], 0, 104)), (13, .iload_n 1, 1, (0, 0, [], 0, 0)), (14, .aload_n 0, 1, (0, 0, [], 0, 0)), (15, .getfield 21, 3, (0, 0, [(2, 0), (3, 0)], 0, 103)), (18, .imul, 1, (0, 0, [], 0, 0)), (19, .iload_n 2, 1, (0, 0, [], 0, 0)), (20, .iadd, 1, (0, 0, [], 0, 0)), (21, .iload_n 3, 1, (0, 0, [], 0, 0)), (22, .iastore, 1, (0, 0, [], 0, 0)), (23, .return_, 1, (0, 0, [], 0, 0))]
def p_tb28 : am_T := [(0, .aload_n 0, 1, (0, 0, [], 0, 0)), (1, .getfield 9, 3, (0, 0, [(2, 2), (3, 2)], 0, 105)), (4, .iconst 1, 1, (0, 0, [], 0, 0)), (5, .iadd, 1, (0, 0, [], 0, 0)), (6, .aload_n 0, 1, (0, 0, [], 0, 0)), (7, .getfield 21, 3, (0, 0, [(2, 0), (3, 0)], 0, 103)), (10, .imul, 1, (0, 0, [], 0, 0)), (11, .istore_n 1, 1, (0, 0, [], 0, 0)), (12, .iload_n 1, 1, (0, 0, [], 0, 0)), (13, .aload_n 0, 1, (0, 0, [], 0, 0)), (14, .getfield 24, 3, (0, 0, [(2, 1), (3, 1)], 0, 104)), (17, .arraylength, 1, (0, 0, [], 0, 0)), (18, .if_icmp .le 17, 3, (35, 0, [], 0, 0)), (21, .aload_n 0, 1, (0, 0, [], 0, 0)), (22, .aload_n 0, 1, (0, 0, [], 0, 0)), (23, .getfield 24, 3, (0, 0, [(2, 1), (3, 1)], 0, 104)), (26, .iconst 2, 1, (0, 0, [], 0, 0)), (27, .iload_n 1, 1, (0, 0, [], 0, 0)), (28, .imul, 1, (0, 0, [], 0, 0)), (29, .invokestatic 32, 3, (126, 2, [], 0, 437)), (32, .putfield 24, 3, (0, 0, [(2, 1), (3, 1)], 0, 104)), (35, .aload_n 0, 1, (0, 0, [], 0, 0)), (36, .dup, 1, (0, 0, [], 0, 0)), (37, .getfield 9, 3, (0, 0, [(2, 2), (3, 2)], 0, 105)), (40, .dup_x1, 1, (0, 0, [], 0, 0)), (41, .iconst 1, 1, (0, 0, [], 0, 0)), (42, .iadd, 1, (0, 0, [], 0, 0)), (43, .putfield 9, 3, (0, 0, [(2, 2), (3, 2)], 0, 105)), (46, .ireturn, 1, (0, 0, [], 0, 0))]
def p_tb29 : am_T := [(0, .aload_n 0, 1, (0, 0, [], 0, 0)), (1, .invokespecial 3, 3, (0, 0, [], 10, 190)), (4, .aload_n 0, 1, (0, 0, [], 0, 0)), (5, .bipush 10, 2, (0, 0, [], 0, 0)), (7, .newarray .int, 2, (0, 0, [], 0, 0)), (9, .putfield 9, 3, (0, 0, [(7, 0)], 0, 194)), (12, .aload_n 0, 1, (0, 0, [], 0, 0)), (13, .bipush 10, 2, (0, 0, [], 0, 0)), (15, .newarray .int, 2, (0, 0, [], 0, 0)), (17, .putfield 15, 3, (0, 0, [(7, 1)], 0, 196)), (20, .aload_n 0, 1, (0, 0, [], 0, 0)), (21, .bipush 10, 2, (0, 0, [], 0, 0)), (23, .newarray .int, 2, (0, 0, [], 0, 0)), (25, .putfield 18, 3, (0, 0, [(7, 2)], 0, 199)), (28, .aload_n 0, 1, (0, 0, [], 0, 0)), (29, .iconst 0, 1, (0, 0, [], 0, 0)), (30, .putfield 21, 3, (0, 0, [(7, 3)], 0, 201)), (33, .aload_n 0, 1, (0, 0, [], 0, 0)), (34, .getfield 15, 3, (0, 0, [(7, 1)], 0, 196)), (37, .bipush (-6), 2, (0, 0, [], 0, 0)), (39, .invokestatic 25, 3, (123, 2, [], 0, 191)), (42, .return_, 1, (0, 0, [], 0, 0))]
def p_tb30 : am_T := [(0, .iload_n 1, 1, (0, 0, [], 0, 0)), (1, .invokestatic 31, 3, (55, 1, [], 1, 521)), (4, .ifCond .eq 18, 3, (22, 0, [], 0, 0)), (7, .aload_n 0, 1, (0, 0, [], 0, 0)), (8, .getfield 15, 3, (0, 0, [(7, 1)], 0, 196)), (11, .iload_n 1, 1, (0, 0, [], 0, 0)), (12, .iaload, 1, (0, 0, [], 0, 0)), (13, .bipush (-6), 2, (0, 0, [], 0, 0)), (15, .if_icmp .eq 7, 3, (22, 0, [], 0, 0)), (18, .iconst 1, 1, (0, 0, [], 0, 0)), (19, .goto 4, 3, (23, 0, [], 0, 0)), (22, .iconst 0, 1, (0, 0, [], 0, 0)), (23, .ireturn, 1, (0, 0, [], 0, 0))]
def p_tb31 : am_T := [(0, .iload_n 1, 1, (0, 0, [], 0, 0)), (1, .invokestatic 31, 3, (55, 1, [], 1, 521)), (4, .ifCond .ne 5, 3, (9, 0, [], 0, 0)), (7, .iconst 0, 1, (0, 0, [], 0, 0)), (8, .ireturn, 1, (0, 0, [], 0, 0)), (9, .iload_n 3, 1, (0, 0, [], 0, 0)), (10, .aload_n 0, 1, (0, 0, [], 0, 0)), (11, .getfield 15, 3, (0, 0, [(7, 1)], 0, 196)), (14, .iload_n 1, 1, (0, 0, [], 0, 0)), (15, .iaload, 1, (0, 0, [], 0, 0)), (16, .if_icmp .gt 24, 3, (40, 0, [], 0, 0)), (19, .iload_n 3, 1, (0, 0, [], 0, 0)), (20, .aload_n 0, 1, (0, 0, [], 0, 0)), (21, .getfield 15, 3, (0, 0, [(7, 1)], 0, 196)), (24, .iload_n 1, 1, (0, 0, [], 0, 0)), (25, .iaload, 1, (0, 0, [], 0, 0)), (26, .if_icmp .ne 18, 3, (44, 0, [], 0, 0)), (29, .iload 4, 2, (0, 0, [], 0, 0)), (31, .aload_n 0, 1, (0, 0, [], 0, 0)), (32, .getfield 18, 3, (0, 0, [(7, 2)], 0, 199)), (35, .iload_n 1, 1, (0, 0, [], 0, 0)), (36, .iaload, 1, (0, 0, [], 0, 0)), (37, .if_icmp .le 7, 3, (44, 0, [], 0, 0)), (40, .iconst 1, 1, (0, 0, [], 0, 0)), (41, .goto 4, 3, (45, 0, [], 0, 0)), (44, .iconst 0, 1, (0, 0, [], 0, 0)), (45, .istore 5, 2, (0, 0, [], 0, 0)), (47, .iload 5, 2, (0, 0, [], 0, 0)), (49, .ifCond .ne 5, 3, (54, 0, [], 0, 0)), (52, .iconst 0, 1, (0, 0, [], 0, 0)), (53, .ireturn, 1, (0, 0, [], 0, 0)), (54, .aload_n 0, 1, (0, 0, [], 0, 0)), (55, .iload_n 1, 1, (0, 0, [], 0, 0)), (56, .invokevirtual 35, 3, (30, 1, [(7, 0)], 4, 522)), (59, .ifCond .ne 13, 3, (72, 0, [], 0, 0)), (62, .aload_n 0, 1, (0, 0, [], 0, 0)), (63, .dup, 1, (0, 0, [], 0, 0)), (64, .getfield 21, 3, (0, 0, [(7, 3)], 0, 201)), (67, .iconst 1, 1, (0, 0, [], 0, 0)), (68, .iadd, 1, (0, 0, [], 0, 0)), (69, .putfield 21, 3, (0, 0, [(7, 3)], 0, 201)), (72, .aload_n 0, 1, (0, 0, [], 0, 0)), (73, .getfield 9, 3, (0, 0, [(7, 0)], 0, 194)), (76, .iload_n 1, 1, (0, 0, [], 0, 0)), (77, .iload_n 2, 1, (0, 0, [], 0, 0)), (78, .iastore, 1, (0, 0, [], 0, 0)), (79, .aload_n 0, 1, (0, 0, [], 0, 0)), (80, .getfield 15, 3, (0, 0, [(7, 1)], 0, 196)), (83, .iload_n 1, 1, (0, 0, [], 0, 0)), (84, .iload_n 3, 1, (0, 0, [], 0, 0)), (85, .iastore, 1, (0, 0, [], 0, 0)), (86, .aload_n 0, 1, (0, 0, [], 0, 0)), (87, .getfield 18, 3, (0, 0, [(7, 2)], 0, 199)), (90, .iload_n 1, 1, (0, 0, [], 0, 0)), (91, .iload 4, 2, (0, 0, [], 0, 0)), (93, .iastore, 1, (0, 0, [], 0, 0)), (94, .iconst 1, 1, (0, 0, [], 0, 0)), (95, .ireturn, 1, (0, 0, [], 0, 0))]
def p_tb32 : am_T := [(0, .aload_n 0, 1, (0, 0, [], 0, 0)), (1, .invokespecial 1, 3, (0, 0, [], 10, 62)), (4, .aload_n 0, 1, (0, 0, [], 0, 0)), (5, .new 7, 3, (0, 0, [], 0, 0)), (8, .dup, 1, (0, 0, [], 0, 0)), (9, .invokespecial 9, 3, (115, 0, [], 2, 67)), (12, .putfield 10, 3, (0, 0, [(8, 0)], 0, 131)), (15, .aload_n 0, 1, (0, 0, [], 0, 0)), (16, .new 7, 3, (0, 0, [], 0, 0)), (19, .dup, 1, (0, 0, [], 0, 0)), (20, .invokespecial 9, 3, (115, 0, [], 2, 67)), (23, .putfield 16, 3, (0, 0, [(8, 1)], 0, 132)), (26, .aload_n 0, 1, (0, 0, [], 0, 0)), (27, .new 19, 3, (2, 0, [], 0, 0)), (30, .dup, 1, (0, 0, [], 0, 0)), (31, .invokespecial 21, 3, (5, 0, [], 2, 93)), (34, .putfield 22, 3, (0, 0, [(8, 2)], 0, 133)), (37, .aload_n 0, 1, (0, 0, [], 0, 0)), (38, .new 26, 3, (1, 0, [], 0, 0)), (41, .dup, 1, (0, 0, [], 0, 0)), (42, .invokespecial 28, 3, (0, 0, [], 3, 116)), (45, .putfield 29, 3, (0, 0, [(8, 3)], 0, 134)), (48, .aload_n 0, 1, (0, 0, [], 0, 0)), (49, .bipush (-6), 2, (0, 0, [], 0, 0)), (51, .putfield 33, 3, (0, 0, [(8, 4)], 0, 135)), (54, .aload_n 0, 1, (0, 0, [], 0, 0)), (55, .iconst 0, 1, (0, 0, [], 0, 0)), (56, .putfield 37, 3, (0, 0, [(8, 5)], 0, 136)), (59, .aload_n 0, 1, (0, 0, [], 0, 0)), (60, .iconst 0, 1, (0, 0, [], 0, 0)), (61, .putfield 41, 3, (0, 0, [(8, 6)], 0, 137)), (64, .aload_n 0, 1, (0, 0, [], 0, 0)), (65, .iconst 0, 1, (0, 0, [], 0, 0)), (66, .putfield 44, 3, (0, 0, [(8, 7)], 0, 138)), (69, .aload_n 0, 1, (0, 0, [], 0, 0)), (70, .iconst 0, 1, (0, 0, [], 0, 0)), (71, .putfield 47, 3, (0, 0, [(8, 8)], 0, 139)), (74, .return_, 1, (0, 0, [], 0, 0))]
def p_tb33 : am_T := [(0, .iload_n 1, 1, (0, 0, [], 0, 0)), (1, .ifCond .eq 11, 3, (12, 0, [], 0, 0)), (4, .iload_n 1, 1, (0, 0, [], 0, 0)), (5, .iconst 1, 1, (0, 0, [], 0, 0)), (6, .if_icmp .eq 6, 3, (12, 0, [], 0, 0)), (9, .bipush (-2), 2, (0, 0, [], 0, 0)), (11, .ireturn, 1, (0, 0, [], 0, 0)), (12, .aload_n 0, 1, (0, 0, [], 0, 0)), (13, .getfield 41, 3, (0, 0, [(8, 6)], 0, 137)), (16, .ifCond .eq 6, 3, (22, 0, [], 0, 0)), (19, .bipush (-5), 2, (0, 0, [], 0, 0)), (21, .ireturn, 1, (0, 0, [], 0, 0)), (22, .aload_n 0, 1, (0, 0, [], 0, 0)), (23, .getfield 29, 3, (0, 0, [(8, 3)], 0, 134)), (26, .getfield 50, 3, (1, 0, [(1, 2)], 0, 123)), (29, .ifCond .le 6, 3, (35, 0, [], 0, 0)), (32, .bipush (-3), 2, (0, 0, [], 0, 0)), (34, .ireturn, 1, (0, 0, [], 0, 0)), (35, .aload_n 0, 1, (0, 0, [], 0, 0)), (36, .getfield 10, 3, (0, 0, [(8, 0)], 0, 131)), (39, .invokevirtual 53, 3, (118, 0, [(0, 0)], 4, 163)), (42, .iconst 3, 1, (0, 0, [], 0, 0)), (43, .if_icmp .lt 6, 3, (49, 0, [], 0, 0)), (46, .bipush (-4), 2, (0, 0, [], 0, 0)), (48, .ireturn, 1, (0, 0, [], 0, 0)), (49, .aload_n 0, 1, (0, 0, [], 0, 0)), (50, .getfield 10, 3, (0, 0, [(8, 0)], 0, 131)), (53, .invokevirtual 53, 3, (118, 0, [(0, 0)], 4, 163)), (56, .istore_n 2, 1, (0, 0, [], 0, 0)), (57, .aload_n 0, 1, (0, 0, [], 0, 0)), (58, .getfield 10, 3, (0, 0, [(8, 0)], 0, 131)), (61, .new 57, 3, (4, 0, [], 0, 0)), (64, .dup, 1, (0, 0, [], 0, 0)), (65, .iload_n 2, 1, (0, 0, [], 0, 0)), (66, .iload_n 1, 1, (0, 0, [], 0, 0)), (67, .invokespecial 59, 3, (10, 2, [], 2, 169)), (70, .invokevirtual 62, 3, (122, 1, [(0, 0)], 4, 253)), (73, .pop, 1, (0, 0, [], 0, 0)), (74, .iload_n 2, 1, (0, 0, [], 0, 0)), (75, .ireturn, 1, (0, 0, [], 0, 0))]
def p_tb34 : am_T := [(0, .aload_n 0, 1, (0, 0, [], 0, 0)), (1, .iload_n 1, 1, (0, 0, [], 0, 0)), (2, .invokevirtual 66, 3, (53, 1, [(8, 0)], 4, 312)), (5, .astore 4, 2, (0, 0, [], 0, 0)), (7, .aload 4, 2, (0, 0, [], 0, 0)), (9, .ifnonnull 5, 3, (14, 0, [], 0, 0)), (12, .iconst (-1), 1, (0, 0, [], 0, 0)), (13, .ireturn, 1, (0, 0, [], 0, 0)), (14, .iload_n 2, 1, (0, 0, [], 0, 0)), (15, .invokestatic 70, 3, (55, 1, [], 0, 330)), (18, .ifCond .ne 6, 3, (24, 0, [], 0, 0)), (21, .bipush (-2), 2, (0, 0, [], 0, 0)), (23, .ireturn, 1, (0, 0, [], 0, 0)), (24, .aload_n 0, 1, (0, 0, [], 0, 0)), (25, .getfield 41, 3, (0, 0, [(8, 6)], 0, 137)), (28, .ifCond .eq 6, 3, (34, 0, [], 0, 0)), (31, .bipush (-5), 2, (0, 0, [], 0, 0)), (33, .ireturn, 1, (0, 0, [], 0, 0)), (34, .aload_n 0, 1, (0, 0, [], 0, 0)), (35, .getfield 37, 3, (0, 0, [(8, 5)], 0, 136)), (38, .ifCond .eq 6, 3, (44, 0, [], 0, 0)), (41, .bipush (-3), 2, (0, 0, [], 0, 0)), (43, .ireturn, 1, (0, 0, [], 0, 0)), (44, .aload 4, 2, (0, 0, [], 0, 0)), (46, .iload_n 2, 1, (0, 0, [], 0, 0)), (47, .iload_n 3, 1, (0, 0, [], 0, 0)), (48, .invokevirtual 74, 3, (11, 2, [(4, 0)], 4, 333)), (51, .ifCond .eq 11, 3, (62, 0, [], 0, 0)), (54, .aload 4, 2, (0, 0, [], 0, 0)), (56, .getfield 78, 3, (1, 0, [(4, 4)], 0, 221)), (59, .goto 5, 3, (64, 0, [], 0, 0)), (62, .bipush (-4), 2, (0, 0, [], 0, 0)), (64, .ireturn, 1, (0, 0, [], 0, 0))]
def p_tb35 : am_T := [(0, .aload_n 0, 1, (0, 0, [], 0, 0)), (1, .iload_n 1, 1, (0, 0, [], 0, 0)), (2, .invokevirtual 81, 3, (61, 1, [(8, 0)], 4, 341)), (5, .istore_n 2, 1, (0, 0, [], 0, 0)), (6, .iload_n 2, 1, (0, 0, [], 0, 0)), (7, .ifCond .ne 11, 3, (18, 0, [], 0, 0)), (10, .aload_n 0, 1, (0, 0, [], 0, 0)), (11, .iload_n 1, 1, (0, 0, [], 0, 0)), (12, .invokevirtual 85, 3, (63, 1, [(8, 0)], 4, 362)), (15, .goto 4, 3, (19, 0, [], 0, 0)), (18, .iload_n 2, 1, (0, 0, [], 0, 0)), (19, .ireturn, 1, (0, 0, [], 0, 0))]
def p_tb36 : am_T := [(0, .iload_n 1, 1, (0, 0, [], 0, 0)), (1, .aload_n 0, 1, (0, 0, [], 0, 0)), (2, .getfield 33, 3, (0, 0, [(8, 4)], 0, 135)), (5, .if_icmp .le 14, 3, (19, 0, [], 0, 0)), (8, .aload_n 0, 1, (0, 0, [], 0, 0)), (9, .getfield 29, 3, (0, 0, [(8, 3)], 0, 134)), (12, .iload_n 1, 1, (0, 0, [], 0, 0)), (13, .invokevirtual 88, 3, (2, 1, [(1, 0)], 4, 467)), (16, .ifCond .ne 6, 3, (22, 0, [], 0, 0)), (19, .bipush (-2), 2, (0, 0, [], 0, 0)), (21, .ireturn, 1, (0, 0, [], 0, 0)), (22, .aload_n 0, 1, (0, 0, [], 0, 0)), (23, .getfield 41, 3, (0, 0, [(8, 6)], 0, 137)), (26, .ifCond .eq 6, 3, (32, 0, [], 0, 0)), (29, .bipush (-5), 2, (0, 0, [], 0, 0)), (31, .ireturn, 1, (0, 0, [], 0, 0)), (32, .aload_n 0, 1, (0, 0, [], 0, 0)), (33, .iconst 2, 1, (0, 0, [], 0, 0)), (34, .iload_n 1, 1, (0, 0, [], 0, 0)), (35, .invokevirtual 91, 3, (65, 2, [(8, 0)], 4, 471)), (38, .ifCond .eq 10, 3, (48, 0, [], 0, 0)), (41, .aload_n 0, 1, (0, 0, [], 0, 0)), (42, .invokevirtual 94, 3, (66, 0, [(8, 0)], 4, 475)), (45, .goto 5, 3, (50, 0, [], 0, 0)), (48, .bipush (-5), 2, (0, 0, [], 0, 0)), (50, .ireturn, 1, (0, 0, [], 0, 0))]
def p_tb37 : am_T := [(0, .aload_n 0, 1, (0, 0, [], 0, 0)), (1, .getfield 41, 3, (0, 0, [(8, 6)], 0, 137)), (4, .ifCond .eq 8, 3, (12, 0, [], 0, 0)), (7, .bipush (-5), 2, (0, 0, [], 0, 0)), (9, .goto 7, 3, (16, 0, [], 0, 0)), (12, .aload_n 0, 1, (0, 0, [], 0, 0)), (13, .invokevirtual 94, 3, (66, 0, [(8, 0)], 4, 475)), (16, .ireturn, 1, (0, 0, [], 0, 0))]
def p_tb38 : am_T := [(0, .iload_n 1, 1, (0, 0, [], 0, 0)), (1, .invokestatic 97, 3, (56, 1, [], 0, 345)), (4, .ifCond .eq 11, 3, (15, 0, [], 0, 0)), (7, .iload_n 1, 1, (0, 0, [], 0, 0)), (8, .aload_n 0, 1, (0, 0, [], 0, 0)), (9, .getfield 33, 3, (0, 0, [(8, 4)], 0, 135)), (12, .if_icmp .gt 6, 3, (18, 0, [], 0, 0)), (15, .bipush (-2), 2, (0, 0, [], 0, 0)), (17, .ireturn, 1, (0, 0, [], 0, 0)), (18, .aload_n 0, 1, (0, 0, [], 0, 0)), (19, .getfield 41, 3, (0, 0, [(8, 6)], 0, 137)), (22, .ifCond .eq 6, 3, (28, 0, [], 0, 0)), (25, .bipush (-5), 2, (0, 0, [], 0, 0)), (27, .ireturn, 1, (0, 0, [], 0, 0)), (28, .aload_n 0, 1, (0, 0, [], 0, 0)), (29, .iload_n 1, 1, (0, 0, [], 0, 0)), (30, .invokevirtual 100, 3, (69, 1, [(8, 0)], 4, 534)), (33, .istore_n 2, 1, (0, 0, [], 0, 0)), (34, .iload_n 2, 1, (0, 0, [], 0, 0)), (35, .bipush (-5), 2, (0, 0, [], 0, 0)), (37, .if_icmp .eq 11, 3, (48, 0, [], 0, 0)), (40, .aload_n 0, 1, (0, 0, [], 0, 0)), (41, .getfield 29, 3, (0, 0, [(8, 3)], 0, 134)), (44, .iload_n 1, 1, (0, 0, [], 0, 0)), (45, .invokevirtual 103, 3, (4, 1, [(1, 0)], 4, 542)), (48, .iload_n 2, 1, (0, 0, [], 0, 0)), (49, .ireturn, 1, (0, 0, [], 0, 0))]
def p_tb39 : am_T := [(0, .aload_n 0, 1, (0, 0, [], 0, 0)), (1, .iload_n 1, 1, (0, 0, [], 0, 0)), (2, .invokevirtual 81, 3, (61, 1, [(8, 0)], 4, 341)), (5, .istore_n 2, 1, (0, 0, [], 0, 0)), (6, .iload_n 2, 1, (0, 0, [], 0, 0)), (7, .ifCond .eq 5, 3, (12, 0, [], 0, 0)), (10, .iload_n 2, 1, (0, 0, [], 0, 0)), (11, .ireturn, 1, (0, 0, [], 0, 0)), (12, .aload_n 0, 1, (0, 0, [], 0, 0)), (13, .iload_n 1, 1, (0, 0, [], 0, 0)), (14, .invokevirtual 85, 3, (63, 1, [(8, 0)], 4, 362)), (17, .bipush (-5), 2, (0, 0, [], 0, 0)), (19, .if_icmp .eq 12, 3, (31, 0, [], 0, 0)), (22, .aload_n 0, 1, (0, 0, [], 0, 0)), (23, .iconst 5, 1, (0, 0, [], 0, 0)), (24, .iload_n 1, 1, (0, 0, [], 0, 0)), (25, .invokevirtual 91, 3, (65, 2, [(8, 0)], 4, 471)), (28, .ifCond .ne 6, 3, (34, 0, [], 0, 0)), (31, .bipush (-5), 2, (0, 0, [], 0, 0)), (33, .ireturn, 1, (0, 0, [], 0, 0)), (34, .aload_n 0, 1, (0, 0, [], 0, 0)), (35, .invokevirtual 94, 3, (66, 0, [(8, 0)], 4, 475)), (38, .ireturn, 1, (0, 0, [], 0, 0))]
def p_tb40 : am_T := [(0, .aload_n 0, 1, (0, 0, [], 0, 0)), (1, .iload_n 1, 1, (0, 0, [], 0, 0)), (2, .invokevirtual 66, 3, (53, 1, [(8, 0)], 4, 312)), (5, .astore_n 3, 1, (0, 0, [], 0, 0)), (6, .aload_n 3, 1, (0, 0, [], 0, 0)), (7, .ifnonnull 5, 3, (12, 0, [], 0, 0)), (10, .iconst (-1), 1, (0, 0, [], 0, 0)), (11, .ireturn, 1, (0, 0, [], 0, 0)), (12, .iload_n 2, 1, (0, 0, [], 0, 0)), (13, .ifCond .lt 9, 3, (22, 0, [], 0, 0)), (16, .iload_n 2, 1, (0, 0, [], 0, 0)), (17, .bipush 100, 2, (0, 0, [], 0, 0)), (19, .if_icmp .le 6, 3, (25, 0, [], 0, 0)), (22, .bipush (-2), 2, (0, 0, [], 0, 0)), (24, .ireturn, 1, (0, 0, [], 0, 0)), (25, .aload_n 3, 1, (0, 0, [], 0, 0)), (26, .getfield 107, 3, (1, 0, [(4, 7)], 0, 227)), (29, .istore 4, 2, (0, 0, [], 0, 0)), (31, .aload_n 3, 1, (0, 0, [], 0, 0)), (32, .iload_n 2, 1, (0, 0, [], 0, 0)), (33, .putfield 107, 3, (1, 0, [(4, 7)], 0, 227)), (36, .iload 4, 2, (0, 0, [], 0, 0)), (38, .ireturn, 1, (0, 0, [], 0, 0))]
def p_tb41 : am_T := [(0, .iload_n 1, 1, (0, 0, [], 0, 0)), (1, .bipush (-6), 2, (0, 0, [], 0, 0)), (3, .if_icmp .eq 18, 3, (21, 0, [], 0, 0)), (6, .iload_n 1, 1, (0, 0, [], 0, 0)), (7, .iconst 1, 1, (0, 0, [], 0, 0)), (8, .if_icmp .lt 10, 3, (18, 0, [], 0, 0)), (11, .iload_n 1, 1, (0, 0, [], 0, 0)), (12, .sipush 5000, 3, (0, 0, [], 0, 0)), (15, .if_icmp .le 6, 3, (21, 0, [], 0, 0)), (18, .bipush (-2), 2, (0, 0, [], 0, 0)), (20, .ireturn, 1, (0, 0, [], 0, 0)), (21, .aload_n 0, 1, (0, 0, [], 0, 0)), (22, .getfield 41, 3, (0, 0, [(8, 6)], 0, 137)), (25, .ifCond .eq 6, 3, (31, 0, [], 0, 0)), (28, .bipush (-5), 2, (0, 0, [], 0, 0)), (30, .ireturn, 1, (0, 0, [], 0, 0)), (31, .aload_n 0, 1, (0, 0, [], 0, 0)), (32, .iload_n 1, 1, (0, 0, [], 0, 0)), (33, .bipush (-6), 2, (0, 0, [], 0, 0)), (35, .if_icmp .ne 7, 3, (42, 0, [], 0, 0)), (38, .iconst 0, 1, (0, 0, [], 0, 0)), (39, .goto 4, 3, (43, 0, [], 0, 0)), (42, .iload_n 1, 1, (0, 0, [], 0, 0)), (43, .putfield 44, 3, (0, 0, [(8, 7)], 0, 138)), (46, .iconst 1, 1, (0, 0, [], 0, 0)), (47, .ireturn, 1, (0, 0, [], 0, 0))]
def p_tb42 : am_T := [(0, .aload_n 0, 1, (0, 0, [], 0, 0)), (1, .getfield 22, 3, (0, 0, [(8, 2)], 0, 133)), (4, .invokevirtual 110, 3, (24, 0, [(2, 0)], 5, 372)), (7, .istore_n 1, 1, (0, 0, [], 0, 0)), (8, .aload_n 0, 1, (0, 0, [], 0, 0)), (9, .iconst 0, 1, (0, 0, [], 0, 0)), (10, .putfield 41, 3, (0, 0, [(8, 6)], 0, 137)), (13, .aload_n 0, 1, (0, 0, [], 0, 0)), (14, .iconst 0, 1, (0, 0, [], 0, 0)), (15, .putfield 44, 3, (0, 0, [(8, 7)], 0, 138)), (18, .aload_n 0, 1, (0, 0, [], 0, 0)), (19, .invokevirtual 113, 3, (59, 0, [(8, 0)], 4, 423)), (22, .aload_n 0, 1, (0, 0, [], 0, 0)), (23, .getfield 29, 3, (0, 0, [(8, 3)], 0, 134)), (26, .aload_n 0, 1, (0, 0, [], 0, 0)), (27, .getfield 33, 3, (0, 0, [(8, 4)], 0, 135)), (30, .iconst 1, 1, (0, 0, [], 0, 0)), (31, .iadd, 1, (0, 0, [], 0, 0)), (32, .invokevirtual 103, 3, (4, 1, [(1, 0)], 4, 542)), (35, .aload_n 0, 1, (0, 0, [], 0, 0)), (36, .aload_n 0, 1, (0, 0, [], 0, 0)), (37, .getfield 33, 3, (0, 0, [(8, 4)], 0, 135)), (40, .iconst 1, 1, (0, 0, [], 0, 0)), (41, .iadd, 1, (0, 0, [], 0, 0)), (42, .invokevirtual 100, 3, (69, 1, [(8, 0)], 4, 534)), (45, .pop, 1, (0, 0, [], 0, 0)), (46, .aload_n 0, 1, (0, 0, [], 0, 0)), (47, .invokevirtual 94, 3, (66, 0, [(8, 0)], 4, 475)), (50, .pop, 1, (0, 0, [], 0, 0)), (51, .aload_n 0, 1, (0, 0, [], 0, 0)), (52, .getfield 22, 3, (0, 0, [(8, 2)], 0, 133)), (55, .invokevirtual 110, 3, (24, 0, [(2, 0)], 5, 372)), (58, .iload_n 1, 1, (0, 0, [], 0, 0)), (59, .isub, 1, (0, 0, [], 0, 0)), (60, .ireturn, 1, (0, 0, [], 0, 0))]
def p_tb43 : am_T := [(0, .aload_n 0, 1, (0, 0, [], 0, 0)), (1, .iload_n 1, 1, (0, 0, [], 0, 0)), (2, .invokevirtual 66, 3, (53, 1, [(8, 0)], 4, 312)), (5, .astore_n 3, 1, (0, 0, [], 0, 0)), (6, .aload_n 3, 1, (0, 0, [], 0, 0)), (7, .ifnonnull 5, 3, (12, 0, [], 0, 0)), (10, .iconst (-1), 1, (0, 0, [], 0, 0)), (11, .ireturn, 1, (0, 0, [], 0, 0)), (12, .iload_n 2, 1, (0, 0, [], 0, 0)), (13, .tableswitch 101 0 6 #[43, 48, 53, 61, 86, 91, 96], 43, (114, 0, [(0, 56), (1, 61), (2, 66), (3, 74), (4, 99), (5, 104), (6, 109)], 0, 0)), (56, .aload_n 3, 1, (0, 0, [], 0, 0)), (57, .getfield 116, 3, (1, 0, [(4, 1)], 0, 215)), (60, .ireturn, 1, (0, 0, [], 0, 0)), (61, .aload_n 3, 1, (0, 0, [], 0, 0)), (62, .getfield 78, 3, (1, 0, [(4, 4)], 0, 221)), (65, .ireturn, 1, (0, 0, [], 0, 0)), (66, .aload_n 3, 1, (0, 0, [], 0, 0)), (67, .getfield 119, 3, (1, 0, [(4, 5)], 0, 223)), (70, .invokevirtual 53, 3, (118, 0, [(0, 0)], 4, 163)), (73, .ireturn, 1, (0, 0, [], 0, 0)), (74, .aload_n 3, 1, (0, 0, [], 0, 0)), (75, .getfield 116, 3, (1, 0, [(4, 1)], 0, 215)), (78, .ifCond .ne 13, 3, (91, 0, [], 0, 0)), (81, .aload_n 3, 1, (0, 0, [], 0, 0)), (82, .getfield 122, 3, (1, 0, [(4, 8)], 0, 229)), (85, .invokevirtual 126, 3, (24, 0, [(3, 0)], 5, 566)), (88, .goto 10, 3, (98, 0, [], 0, 0)), (91, .aload_n 3, 1, (0, 0, [], 0, 0)), (92, .getfield 129, 3, (1, 0, [(4, 9)], 0, 231)), (95, .getfield 133, 3, (1, 0, [(7, 3)], 0, 202)), (98, .ireturn, 1, (0, 0, [], 0, 0)), (99, .aload_n 3, 1, (0, 0, [], 0, 0)), (100, .getfield 137, 3, (1, 0, [(4, 6)], 0, 225)), (103, .ireturn, 1, (0, 0, [], 0, 0)), (104, .aload_n 3, 1, (0, 0, [], 0, 0)), (105, .getfield 107, 3, (1, 0, [(4, 7)], 0, 227)), (108, .ireturn, 1, (0, 0, [], 0, 0)), (109, .aload_n 3, 1, (0, 0, [], 0, 0)), (110, .invokevirtual 140, 3, (13, 0, [(4, 0)], 4, 567)), (113, .ireturn, 1, (0, 0, [], 0, 0)), (114, .bipush (-2), 2, (0, 0, [], 0, 0)), (116, .ireturn, 1, (0, 0, [], 0, 0))]
def p_tb44 : am_T := [(0, .aload_n 0, 1, (0, 0, [], 0, 0)), (1, .iload_n 1, 1, (0, 0, [], 0, 0)), (2, .invokevirtual 66, 3, (53, 1, [(8, 0)], 4, 312)), (5, .astore 4, 2, (0, 0, [], 0, 0)), (7, .aload 4, 2, (0, 0, [], 0, 0)), (9, .ifnonnull 7, 3, (16, 0, [], 0, 0)), (12, .aconst_null, 1, (0, 0, [], 0, 0)), (13, .goto 9, 3, (22, 0, [], 0, 0)), (16, .aload 4, 2, (0, 0, [], 0, 0)), (18, .iload_n 2, 1, (0, 0, [], 0, 0)), (19, .invokevirtual 143, 3, (12, 1, [(4, 0)], 4, 578)), (22, .astore 5, 2, (0, 0, [], 0, 0)), (24, .aload 5, 2, (0, 0, [], 0, 0)), (26, .ifnonnull 5, 3, (31, 0, [], 0, 0)), (29, .iconst (-1), 1, (0, 0, [], 0, 0)), (30, .ireturn, 1, (0, 0, [], 0, 0)), (31, .iload_n 3, 1, (0, 0, [], 0, 0)), (32, .tableswitch 46 0 2 #[28, 34, 40], 28, (78, 0, [(0, 60), (1, 66), (2, 72)], 0, 0)), (60, .aload 5, 2, (0, 0, [], 0, 0)), (62, .getfield 147, 3, (1, 0, [(5, 3)], 0, 392)), (65, .ireturn, 1, (0, 0, [], 0, 0)), (66, .aload 5, 2, (0, 0, [], 0, 0)), (68, .getfield 152, 3, (1, 0, [(5, 2)], 0, 389)), (71, .ireturn, 1, (0, 0, [], 0, 0)), (72, .aload 5, 2, (0, 0, [], 0, 0)), (74, .getfield 155, 3, (1, 0, [(5, 4)], 0, 395)), (77, .ireturn, 1, (0, 0, [], 0, 0)), (78, .bipush (-2), 2, (0, 0, [], 0, 0)), (80, .ireturn, 1, (0, 0, [], 0, 0))]
def p_tb45 : am_T := [(0, .aload_n 0, 1, (0, 0, [], 0, 0)), (1, .iload_n 1, 1, (0, 0, [], 0, 0)), (2, .invokevirtual 66, 3, (53, 1, [(8, 0)], 4, 312)), (5, .astore 4, 2, (0, 0, [], 0, 0)), (7, .aload 4, 2, (0, 0, [], 0, 0)), (9, .ifnull 11, 3, (20, 0, [], 0, 0)), (12, .aload 4, 2, (0, 0, [], 0, 0)), (14, .getfield 116, 3, (1, 0, [(4, 1)], 0, 215)), (17, .ifCond .eq 7, 3, (24, 0, [], 0, 0)), (20, .ldc2_w 158, 3, (0, 0, [], (-9223372036854775808), 0)), (23, .lreturn, 1, (0, 0, [], 0, 0)), (24, .aload 4, 2, (0, 0, [], 0, 0)), (26, .getfield 122, 3, (1, 0, [(4, 8)], 0, 229)), (29, .iload_n 2, 1, (0, 0, [], 0, 0)), (30, .iload_n 3, 1, (0, 0, [], 0, 0)), (31, .invokevirtual 160, 3, (25, 2, [(3, 0)], 5, 587)), (34, .ifCond .eq 17, 3, (51, 0, [], 0, 0)), (37, .aload 4, 2, (0, 0, [], 0, 0)), (39, .getfield 122, 3, (1, 0, [(4, 8)], 0, 229)), (42, .iload_n 2, 1, (0, 0, [], 0, 0)), (43, .iload_n 3, 1, (0, 0, [], 0, 0)), (44, .invokevirtual 162, 3, (26, 2, [(3, 0)], 5, 591)), (47, .i2l, 1, (0, 0, [], 0, 0)), (48, .goto 6, 3, (54, 0, [], 0, 0)), (51, .ldc2_w 158, 3, (0, 0, [], (-9223372036854775808), 0)), (54, .lreturn, 1, (0, 0, [], 0, 0))]
def p_tb46 : am_T := [(0, .aload_n 0, 1, (0, 0, [], 0, 0)), (1, .iload_n 1, 1, (0, 0, [], 0, 0)), (2, .invokevirtual 66, 3, (53, 1, [(8, 0)], 4, 312)), (5, .astore 4, 2, (0, 0, [], 0, 0)), (7, .aload 4, 2, (0, 0, [], 0, 0)), (9, .ifnull 24, 3, (33, 0, [], 0, 0)), (12, .aload 4, 2, (0, 0, [], 0, 0)), (14, .getfield 116, 3, (1, 0, [(4, 1)], 0, 215)), (17, .iconst 1, 1, (0, 0, [], 0, 0)), (18, .if_icmp .ne 15, 3, (33, 0, [], 0, 0)), (21, .aload 4, 2, (0, 0, [], 0, 0)), (23, .getfield 129, 3, (1, 0, [(4, 9)], 0, 231)), (26, .iload_n 2, 1, (0, 0, [], 0, 0)), (27, .invokevirtual 166, 3, (30, 1, [(7, 0)], 4, 596)), (30, .ifCond .ne 7, 3, (37, 0, [], 0, 0)), (33, .ldc2_w 158, 3, (0, 0, [], (-9223372036854775808), 0)), (36, .lreturn, 1, (0, 0, [], 0, 0)), (37, .iload_n 3, 1, (0, 0, [], 0, 0)), (38, .tableswitch 62 0 2 #[26, 38, 50], 26, (100, 0, [(0, 64), (1, 76), (2, 88)], 0, 0)), (64, .aload 4, 2, (0, 0, [], 0, 0)), (66, .getfield 129, 3, (1, 0, [(4, 9)], 0, 231)), (69, .getfield 167, 3, (1, 0, [(7, 0)], 0, 195)), (72, .iload_n 2, 1, (0, 0, [], 0, 0)), (73, .iaload, 1, (0, 0, [], 0, 0)), (74, .i2l, 1, (0, 0, [], 0, 0)), (75, .lreturn, 1, (0, 0, [], 0, 0)), (76, .aload 4, 2, (0, 0, [], 0, 0)), (78, .getfield 129, 3, (1, 0, [(4, 9)], 0, 231)), (81, .getfield 171, 3, (1, 0, [(7, 1)], 0, 198)), (84, .iload_n 2, 1, (0, 0, [], 0, 0)), (85, .iaload, 1, (0, 0, [], 0, 0)), (86, .i2l, 1, (0, 0, [], 0, 0)), (87, .lreturn, 1, (0, 0, [], 0, 0)), (88, .aload 4, 2, (0, 0, [], 0, 0)), (90, .getfield 129, 3, (1, 0, [(4, 9)], 0, 231)), (93, .getfield 173, 3, (1, 0, [(7, 2)], 0, 200)), (96, .iload_n 2, 1, (0, 0, [], 0, 0)), (97, .iaload, 1, (0, 0, [], 0, 0)), (98, .i2l, 1, (0, 0, [], 0, 0)), (99, .lreturn, 1, (0, 0, [], 0, 0)), (100, .ldc2_w 158, 3, (0, 0, [], (-9223372036854775808), 0)), (103, .lreturn, 1, (0, 0, [], 0, 0))]
def p_tb47 : am_T := [(0, .aload_n 0, 1, (0, 0, [], 0, 0)), (1, .iload_n 1, 1, (0, 0, [], 0, 0)), (2, .invokevirtual 66, 3, (53, 1, [(8, 0)], 4, 312)), (5, .astore_n 2, 1, (0, 0, [], 0, 0)), (6, .aload_n 2, 1, (0, 0, [], 0, 0)), (7, .ifnonnull 5, 3, (12, 0, [], 0, 0)), (10, .iconst (-1), 1, (0, 0, [], 0, 0)), (11, .ireturn, 1, (0, 0, [], 0, 0)), (12, .aload_n 2, 1, (0, 0, [], 0, 0)), (13, .getfield 116, 3, (1, 0, [(4, 1)], 0, 215)), (16, .ifCond .eq 6, 3, (22, 0, [], 0, 0)), (19, .bipush (-3), 2, (0, 0, [], 0, 0)), (21, .ireturn, 1, (0, 0, [], 0, 0)), (22, .aload_n 0, 1, (0, 0, [], 0, 0)), (23, .getfield 16, 3, (0, 0, [(8, 1)], 0, 132)), (26, .invokevirtual 53, 3, (118, 0, [(0, 0)], 4, 163)), (29, .iconst 4, 1, (0, 0, [], 0, 0)), (30, .if_icmp .lt 6, 3, (36, 0, [], 0, 0)), (33, .bipush (-4), 2, (0, 0, [], 0, 0)), (35, .ireturn, 1, (0, 0, [], 0, 0)), (36, .aload_n 0, 1, (0, 0, [], 0, 0)), (37, .getfield 16, 3, (0, 0, [(8, 1)], 0, 132)), (40, .new 176, 3, (6, 0, [], 0, 0)), (43, .dup, 1, (0, 0, [], 0, 0)), (44, .aload_n 2, 1, (0, 0, [], 0, 0)), (45, .getfield 122, 3, (1, 0, [(4, 8)], 0, 229)), (48, .invokespecial 178, 3, (21, 1, [], 2, 603)), (51, .invokevirtual 62, 3, (122, 1, [(0, 0)], 4, 253)), (54, .pop, 1, (0, 0, [], 0, 0)), (55, .aload_n 0, 1, (0, 0, [], 0, 0)), (56, .getfield 16, 3, (0, 0, [(8, 1)], 0, 132)), (59, .invokevirtual 53, 3, (118, 0, [(0, 0)], 4, 163)), (62, .iconst 1, 1, (0, 0, [], 0, 0)), (63, .isub, 1, (0, 0, [], 0, 0)), (64, .ireturn, 1, (0, 0, [], 0, 0))]
def p_tb48 : am_T := [(0, .aload_n 0, 1, (0, 0, [], 0, 0)), (1, .iload_n 1, 1, (0, 0, [], 0, 0)), (2, .invokevirtual 181, 3, (54, 1, [(8, 0)], 4, 623)), (5, .astore_n 3, 1, (0, 0, [], 0, 0)), (6, .aload_n 3, 1, (0, 0, [], 0, 0)), (7, .ifnonnull 5, 3, (12, 0, [], 0, 0)), (10, .iconst (-1), 1, (0, 0, [], 0, 0)), (11, .ireturn, 1, (0, 0, [], 0, 0)), (12, .iload_n 2, 1, (0, 0, [], 0, 0)), (13, .iconst 1, 1, (0, 0, [], 0, 0)), (14, .if_icmp .lt 9, 3, (23, 0, [], 0, 0)), (17, .iload_n 2, 1, (0, 0, [], 0, 0)), (18, .bipush 100, 2, (0, 0, [], 0, 0)), (20, .if_icmp .le 6, 3, (26, 0, [], 0, 0)), (23, .bipush (-2), 2, (0, 0, [], 0, 0)), (25, .ireturn, 1, (0, 0, [], 0, 0)), (26, .aload_n 3, 1, (0, 0, [], 0, 0)), (27, .iload_n 2, 1, (0, 0, [], 0, 0)), (28, .invokevirtual 185, 3, (22, 1, [(6, 0)], 4, 627)), (31, .ireturn, 1, (0, 0, [], 0, 0))]
def p_tb49 : am_T := [(0, .aload_n 0, 1, (0, 0, [], 0, 0)), (1, .iload_n 1, 1, (0, 0, [], 0, 0)), (2, .invokevirtual 181, 3, (54, 1, [(8, 0)], 4, 623)), (5, .astore_n 3, 1, (0, 0, [], 0, 0)), (6, .aload_n 3, 1, (0, 0, [], 0, 0)), (7, .ifnonnull 5, 3, (12, 0, [], 0, 0)), (10, .iconst (-1), 1, (0, 0, [], 0, 0)), (11, .ireturn, 1, (0, 0, [], 0, 0)), (12, .iload_n 2, 1, (0, 0, [], 0, 0)), (13, .bipush (-6), 2, (0, 0, [], 0, 0)), (15, .if_icmp .ne 8, 3, (23, 0, [], 0, 0)), (18, .aload_n 3, 1, (0, 0, [], 0, 0)), (19, .getfield 188, 3, (1, 0, [(6, 2)], 0, 611)), (22, .ireturn, 1, (0, 0, [], 0, 0)), (23, .iload_n 2, 1, (0, 0, [], 0, 0)), (24, .invokestatic 70, 3, (55, 1, [], 0, 330)), (27, .ifCond .eq 12, 3, (39, 0, [], 0, 0)), (30, .aload_n 3, 1, (0, 0, [], 0, 0)), (31, .getfield 191, 3, (1, 0, [(6, 1)], 0, 609)), (34, .iload_n 2, 1, (0, 0, [], 0, 0)), (35, .iaload, 1, (0, 0, [], 0, 0)), (36, .goto 5, 3, (41, 0, [], 0, 0)), (39, .bipush (-2), 2, (0, 0, [], 0, 0)), (41, .ireturn, 1, (0, 0, [], 0, 0))]
def p_tb50 : am_T := [(0, .iload_n 1, 1, (0, 0, [], 0, 0)), (1, .ifCond .lt 14, 3, (15, 0, [], 0, 0)), (4, .iload_n 1, 1, (0, 0, [], 0, 0)), (5, .aload_n 0, 1, (0, 0, [], 0, 0)), (6, .getfield 22, 3, (0, 0, [(8, 2)], 0, 133)), (9, .invokevirtual 110, 3, (24, 0, [(2, 0)], 5, 372)), (12, .if_icmp .lt 5, 3, (17, 0, [], 0, 0)), (15, .iconst (-1), 1, (0, 0, [], 0, 0)), (16, .ireturn, 1, (0, 0, [], 0, 0)), (17, .aload_n 0, 1, (0, 0, [], 0, 0)), (18, .getfield 22, 3, (0, 0, [(8, 2)], 0, 133)), (21, .iload_n 1, 1, (0, 0, [], 0, 0)), (22, .iload_n 2, 1, (0, 0, [], 0, 0)), (23, .invokevirtual 194, 3, (25, 2, [(2, 0)], 5, 642)), (26, .ifCond .eq 15, 3, (41, 0, [], 0, 0)), (29, .aload_n 0, 1, (0, 0, [], 0, 0)), (30, .getfield 22, 3, (0, 0, [(8, 2)], 0, 133)), (33, .iload_n 1, 1, (0, 0, [], 0, 0)), (34, .iload_n 2, 1, (0, 0, [], 0, 0)), (35, .invokevirtual 195, 3, (26, 2, [(2, 0)], 5, 491)), (38, .goto 5, 3, (43, 0, [], 0, 0)), (41, .bipush (-2), 2, (0, 0, [], 0, 0)), (43, .ireturn, 1, (0, 0, [], 0, 0))]
def p_tb51 : am_T := [(0, .iload_n 1, 1, (0, 0, [], 0, 0)), (1, .tableswitch 124 0 8 #[51, 59, 67, 72, 77, 90, 103, 108, 116], 51, (125, 0, [(0, 52), (1, 60), (2, 68), (3, 73), (4, 78), (5, 91), (6, 104), (7, 109), (8, 117)], 0, 0)), (52, .aload_n 0, 1, (0, 0, [], 0, 0)), (53, .getfield 10, 3, (0, 0, [(8, 0)], 0, 131)), (56, .invokevirtual 53, 3, (118, 0, [(0, 0)], 4, 163)), (59, .ireturn, 1, (0, 0, [], 0, 0)), (60, .aload_n 0, 1, (0, 0, [], 0, 0)), (61, .getfield 22, 3, (0, 0, [(8, 2)], 0, 133)), (64, .invokevirtual 110, 3, (24, 0, [(2, 0)], 5, 372)), (67, .ireturn, 1, (0, 0, [], 0, 0)), (68, .aload_n 0, 1, (0, 0, [], 0, 0)), (69, .getfield 33, 3, (0, 0, [(8, 4)], 0, 135)), (72, .ireturn, 1, (0, 0, [], 0, 0)), (73, .aload_n 0, 1, (0, 0, [], 0, 0)), (74, .invokevirtual 196, 3, (57, 0, [(8, 0)], 4, 349)), (77, .ireturn, 1, (0, 0, [], 0, 0)), (78, .aload_n 0, 1, (0, 0, [], 0, 0)), (79, .getfield 37, 3, (0, 0, [(8, 5)], 0, 136)), (82, .ifCond .eq 7, 3, (89, 0, [], 0, 0)), (85, .iconst 1, 1, (0, 0, [], 0, 0)), (86, .goto 4, 3, (90, 0, [], 0, 0)), (89, .iconst 0, 1, (0, 0, [], 0, 0)), (90, .ireturn, 1, (0, 0, [], 0, 0)), (91, .aload_n 0, 1, (0, 0, [], 0, 0)), (92, .getfield 41, 3, (0, 0, [(8, 6)], 0, 137)), (95, .ifCond .eq 7, 3, (102, 0, [], 0, 0)), (98, .iconst 1, 1, (0, 0, [], 0, 0)), (99, .goto 4, 3, (103, 0, [], 0, 0)), (102, .iconst 0, 1, (0, 0, [], 0, 0)), (103, .ireturn, 1, (0, 0, [], 0, 0)), (104, .aload_n 0, 1, (0, 0, [], 0, 0)), (105, .getfield 47, 3, (0, 0, [(8, 8)], 0, 139)), (108, .ireturn, 1, (0, 0, [], 0, 0)), (109, .aload_n 0, 1, (0, 0, [], 0, 0)), (110, .getfield 29, 3, (0, 0, [(8, 3)], 0, 134)), (113, .getfield 50, 3, (1, 0, [(1, 2)], 0, 123)), (116, .ireturn, 1, (0, 0, [], 0, 0)), (117, .aload_n 0, 1, (0, 0, [], 0, 0)), (118, .getfield 16, 3, (0, 0, [(8, 1)], 0, 132)), (121, .invokevirtual 53, 3, (118, 0, [(0, 0)], 4, 163)), (124, .ireturn, 1, (0, 0, [], 0, 0)), (125, .bipush (-2), 2, (0, 0, [], 0, 0)), (127, .ireturn, 1, (0, 0, [], 0, 0))]
def p_tb52 : am_T := [(0, .iconst 1, 1, (0, 0, [], 0, 0)), (1, .istore_n 1, 1, (0, 0, [], 0, 0)), (2, .iconst 1, 1, (0, 0, [], 0, 0)), (3, .istore_n 2, 1, (0, 0, [], 0, 0)), (4, .iconst 1, 1, (0, 0, [], 0, 0)), (5, .istore_n 3, 1, (0, 0, [], 0, 0)), (6, .iconst 1, 1, (0, 0, [], 0, 0)), (7, .istore 4, 2, (0, 0, [], 0, 0)), (9, .iconst 0, 1, (0, 0, [], 0, 0)), (10, .istore 5, 2, (0, 0, [], 0, 0)), (12, .iload 5, 2, (0, 0, [], 0, 0)), (14, .aload_n 0, 1, (0, 0, [], 0, 0)), (15, .getfield 10, 3, (0, 0, [(8, 0)], 0, 131)), (18, .invokevirtual 53, 3, (118, 0, [(0, 0)], 4, 163)), (21, .if_icmp .ge 105, 3, (126, 0, [], 0, 0)), (24, .aload_n 0, 1, (0, 0, [], 0, 0)), (25, .getfield 10, 3, (0, 0, [(8, 0)], 0, 131)), (28, .iload 5, 2, (0, 0, [], 0, 0)), (30, .invokevirtual 199, 3, (120, 1, [(0, 0)], 4, 316)), (33, .checkcast 57, 3, (4, 0, [], 0, 0)), (36, .astore 6, 2, (0, 0, [], 0, 0)), (38, .iload_n 1, 1, (0, 0, [], 0, 0)), (39, .ifCond .eq 19, 3, (58, 0, [], 0, 0)), (42, .aload 6, 2, (0, 0, [], 0, 0)), (44, .aload_n 0, 1, (0, 0, [], 0, 0)), (45, .getfield 33, 3, (0, 0, [(8, 4)], 0, 135)), (48, .invokevirtual 203, 3, (15, 1, [(4, 0)], 4, 653)), (51, .ifCond .eq 7, 3, (58, 0, [], 0, 0)), (54, .iconst 1, 1, (0, 0, [], 0, 0)), (55, .goto 4, 3, (59, 0, [], 0, 0)), (58, .iconst 0, 1, (0, 0, [], 0, 0)), (59, .istore_n 1, 1, (0, 0, [], 0, 0)), (60, .iload_n 2, 1, (0, 0, [], 0, 0)), (61, .ifCond .eq 15, 3, (76, 0, [], 0, 0)), (64, .aload 6, 2, (0, 0, [], 0, 0)), (66, .invokevirtual 206, 3, (17, 0, [(4, 0)], 4, 665)), (69, .ifCond .eq 7, 3, (76, 0, [], 0, 0)), (72, .iconst 1, 1, (0, 0, [], 0, 0)), (73, .goto 4, 3, (77, 0, [], 0, 0)), (76, .iconst 0, 1, (0, 0, [], 0, 0)), (77, .istore_n 2, 1, (0, 0, [], 0, 0)), (78, .iload_n 3, 1, (0, 0, [], 0, 0)), (79, .ifCond .eq 15, 3, (94, 0, [], 0, 0)), (82, .aload 6, 2, (0, 0, [], 0, 0)), (84, .invokevirtual 210, 3, (18, 0, [(4, 0)], 4, 669)), (87, .ifCond .eq 7, 3, (94, 0, [], 0, 0)), (90, .iconst 1, 1, (0, 0, [], 0, 0)), (91, .goto 4, 3, (95, 0, [], 0, 0)), (94, .iconst 0, 1, (0, 0, [], 0, 0)), (95, .istore_n 3, 1, (0, 0, [], 0, 0)), (96, .iload 4, 2, (0, 0, [], 0, 0)), (98, .ifCond .eq 19, 3, (117, 0, [], 0, 0)), (101, .aload 6, 2, (0, 0, [], 0, 0)), (103, .aload_n 0, 1, (0, 0, [], 0, 0)), (104, .getfield 22, 3, (0, 0, [(8, 2)], 0, 133)), (107, .invokevirtual 213, 3, (19, 1, [(4, 0)], 4, 673)), (110, .ifCond .eq 7, 3, (117, 0, [], 0, 0)), (113, .iconst 1, 1, (0, 0, [], 0, 0)), (114, .goto 4, 3, (118, 0, [], 0, 0)), (117, .iconst 0, 1, (0, 0, [], 0, 0)), (118, .istore 4, 2, (0, 0, [], 0, 0)), (120, .iinc 5 1, 3, (0, 0, [], 0, 0)), (123, .goto (-111), 3, (12, 0, [], 0, 0)), (126, .iload_n 1, 1, (0, 0, [], 0, 0)), (127, .ifCond .eq 7, 3, (134, 0, [], 0, 0)), (130, .iconst 0, 1, (0, 0, [], 0, 0)), (131, .goto 4, 3, (135, 0, [], 0, 0)), (134, .iconst 1, 1, (0, 0, [], 0, 0)), (135, .iload_n 2, 1, (0, 0, [], 0, 0)), (136, .ifCond .eq 7, 3, (143, 0, [], 0, 0)), (139, .iconst 0, 1, (0, 0, [], 0, 0)), (140, .goto 4, 3, (144, 0, [], 0, 0)), (143, .iconst 1, 1, (0, 0, [], 0, 0)), (144, .iadd, 1, (0, 0, [], 0, 0)), (145, .iload_n 3, 1, (0, 0, [], 0, 0)), (146, .ifCond .eq 7, 3, (153, 0, [], 0, 0)), (149, .iconst 0, 1, (0, 0, [], 0, 0)), (150, .goto 4, 3, (154, 0, [], 0, 0)), (153, .iconst 1, 1, (0, 0, [], 0, 0)), (154, .iadd, 1, (0, 0, [], 0, 0)), (155, .iload 4, 2, (0, 0, [], 0, 0)), (157, .ifCond .eq 7, 3, (164, 0, [], 0, 0)), (160, .iconst 0, 1, (0, 0, [], 0, 0)), (161, .goto 4, 3, (165, 0, [], 0, 0)), (164, .iconst 1, 1, (0, 0, [], 0, 0)), (165, .iadd, 1, (0, 0, [], 0, 0)), (166, .ireturn, 1, (0, 0, [], 0, 0))]
def p_tb53 : am_T := [(0, .iload_n 1, 1, (0, 0, [], 0, 0)), (1, .ifCond .lt 14, 3, (15, 0, [], 0, 0)), (4, .iload_n 1, 1, (0, 0, [], 0, 0)), (5, .aload_n 0, 1, (0, 0, [], 0, 0)), (6, .getfield 10, 3, (0, 0, [(8, 0)], 0, 131)), (9, .invokevirtual 53, 3, (118, 0, [(0, 0)], 4, 163)), (12, .if_icmp .lt 7, 3, (19, 0, [], 0, 0)), (15, .aconst_null, 1, (0, 0, [], 0, 0)), (16, .goto 14, 3, (30, 0, [], 0, 0)), (19, .aload_n 0, 1, (0, 0, [], 0, 0)), (20, .getfield 10, 3, (0, 0, [(8, 0)], 0, 131)), (23, .iload_n 1, 1, (0, 0, [], 0, 0)), (24, .invokevirtual 199, 3, (120, 1, [(0, 0)], 4, 316)), (27, .checkcast 57, 3, (4, 0, [], 0, 0)), (30, .areturn, 1, (0, 0, [], 0, 0))]
def p_tb54 : am_T := [(0, .iload_n 1, 1, (0, 0, [], 0, 0)), (1, .ifCond .lt 14, 3, (15, 0, [], 0, 0)), (4, .iload_n 1, 1, (0, 0, [], 0, 0)), (5, .aload_n 0, 1, (0, 0, [], 0, 0)), (6, .getfield 16, 3, (0, 0, [(8, 1)], 0, 132)), (9, .invokevirtual 53, 3, (118, 0, [(0, 0)], 4, 163)), (12, .if_icmp .lt 7, 3, (19, 0, [], 0, 0)), (15, .aconst_null, 1, (0, 0, [], 0, 0)), (16, .goto 14, 3, (30, 0, [], 0, 0)), (19, .aload_n 0, 1, (0, 0, [], 0, 0)), (20, .getfield 16, 3, (0, 0, [(8, 1)], 0, 132)), (23, .iload_n 1, 1, (0, 0, [], 0, 0)), (24, .invokevirtual 199, 3, (120, 1, [(0, 0)], 4, 316)), (27, .checkcast 176, 3, (6, 0, [], 0, 0)), (30, .areturn, 1, (0, 0, [], 0, 0))]
def p_tb55 : am_T := [(0, .iload_n 0, 1, (0, 0, [], 0, 0)), (1, .ifCond .lt 13, 3, (14, 0, [], 0, 0)), (4, .iload_n 0, 1, (0, 0, [], 0, 0)), (5, .bipush 10, 2, (0, 0, [], 0, 0)), (7, .if_icmp .ge 7, 3, (14, 0, [], 0, 0)), (10, .iconst 1, 1, (0, 0, [], 0, 0)), (11, .goto 4, 3, (15, 0, [], 0, 0)), (14, .iconst 0, 1, (0, 0, [], 0, 0)), (15, .ireturn, 1, (0, 0, [], 0, 0))]
def p_tb56 : am_T := [(0, .iload_n 0, 1, (0, 0, [], 0, 0)), (1, .ifCond .lt 13, 3, (14, 0, [], 0, 0)), (4, .iload_n 0, 1, (0, 0, [], 0, 0)), (5, .ldc 217, 2, (0, 0, [], 1000000, 0)), (7, .if_icmp .gt 7, 3, (14, 0, [], 0, 0)), (10, .iconst 1, 1, (0, 0, [], 0, 0)), (11, .goto 4, 3, (15, 0, [], 0, 0)), (14, .iconst 0, 1, (0, 0, [], 0, 0)), (15, .ireturn, 1, (0, 0, [], 0, 0))]
def p_tb57 : am_T := [(0, .aload_n 0, 1, (0, 0, [], 0, 0)), (1, .getfield 29, 3, (0, 0, [(8, 3)], 0, 134)), (4, .invokevirtual 218, 3, (3, 0, [(1, 0)], 4, 353)), (7, .aload_n 0, 1, (0, 0, [], 0, 0)), (8, .getfield 33, 3, (0, 0, [(8, 4)], 0, 135)), (11, .invokestatic 221, 3, (111, 2, [], 0, 357)), (14, .ireturn, 1, (0, 0, [], 0, 0))]
def p_tb58 : am_T := [(0, .aload_n 0, 1, (0, 0, [], 0, 0)), (1, .getfield 44, 3, (0, 0, [(8, 7)], 0, 138)), (4, .iconst 1, 1, (0, 0, [], 0, 0)), (5, .if_icmp .ne 19, 3, (24, 0, [], 0, 0)), (8, .aload_n 0, 1, (0, 0, [], 0, 0)), (9, .iconst 0, 1, (0, 0, [], 0, 0)), (10, .putfield 44, 3, (0, 0, [(8, 7)], 0, 138)), (13, .aload_n 0, 1, (0, 0, [], 0, 0)), (14, .iconst 1, 1, (0, 0, [], 0, 0)), (15, .putfield 41, 3, (0, 0, [(8, 6)], 0, 137)), (18, .aload_n 0, 1, (0, 0, [], 0, 0)), (19, .invokevirtual 113, 3, (59, 0, [(8, 0)], 4, 423)), (22, .iconst 0, 1, (0, 0, [], 0, 0)), (23, .ireturn, 1, (0, 0, [], 0, 0)), (24, .aload_n 0, 1, (0, 0, [], 0, 0)), (25, .getfield 44, 3, (0, 0, [(8, 7)], 0, 138)), (28, .iconst 1, 1, (0, 0, [], 0, 0)), (29, .if_icmp .le 13, 3, (42, 0, [], 0, 0)), (32, .aload_n 0, 1, (0, 0, [], 0, 0)), (33, .dup, 1, (0, 0, [], 0, 0)), (34, .getfield 44, 3, (0, 0, [(8, 7)], 0, 138)), (37, .iconst 1, 1, (0, 0, [], 0, 0)), (38, .isub, 1, (0, 0, [], 0, 0)), (39, .putfield 44, 3, (0, 0, [(8, 7)], 0, 138)), (42, .aload_n 0, 1, (0, 0, [], 0, 0)), (43, .dup, 1, (0, 0, [], 0, 0)), (44, .getfield 47, 3, (0, 0, [(8, 8)], 0, 139)), (47, .iconst 1, 1, (0, 0, [], 0, 0)), (48, .iadd, 1, (0, 0, [], 0, 0)), (49, .putfield 47, 3, (0, 0, [(8, 8)], 0, 139)), (52, .iconst 1, 1, (0, 0, [], 0, 0)), (53, .ireturn, 1, (0, 0, [], 0, 0))]
def p_tb59 : am_T := [(0, .iconst 0, 1, (0, 0, [], 0, 0)), (1, .istore_n 1, 1, (0, 0, [], 0, 0)), (2, .iload_n 1, 1, (0, 0, [], 0, 0)), (3, .aload_n 0, 1, (0, 0, [], 0, 0)), (4, .getfield 10, 3, (0, 0, [(8, 0)], 0, 131)), (7, .invokevirtual 53, 3, (118, 0, [(0, 0)], 4, 163)), (10, .if_icmp .ge 24, 3, (34, 0, [], 0, 0)), (13, .aload_n 0, 1, (0, 0, [], 0, 0)), (14, .getfield 10, 3, (0, 0, [(8, 0)], 0, 131)), (17, .iload_n 1, 1, (0, 0, [], 0, 0)), (18, .invokevirtual 199, 3, (120, 1, [(0, 0)], 4, 316)), (21, .checkcast 57, 3, (4, 0, [], 0, 0)), (24, .iconst 0, 1, (0, 0, [], 0, 0)), (25, .putfield 78, 3, (1, 0, [(4, 4)], 0, 221)), (28, .iinc 1 1, 3, (0, 0, [], 0, 0)), (31, .goto (-29), 3, (2, 0, [], 0, 0)), (34, .return_, 1, (0, 0, [], 0, 0))]
def p_tb60 : am_T := [(0, .aload_n 0, 1, (0, 0, [], 0, 0)), (1, .invokevirtual 226, 3, (58, 0, [(8, 0)], 4, 419)), (4, .ifCond .ne 5, 3, (9, 0, [], 0, 0)), (7, .iconst 0, 1, (0, 0, [], 0, 0)), (8, .ireturn, 1, (0, 0, [], 0, 0)), (9, .aload_n 0, 1, (0, 0, [], 0, 0)), (10, .getfield 22, 3, (0, 0, [(8, 2)], 0, 133)), (13, .iload_n 1, 1, (0, 0, [], 0, 0)), (14, .iload_n 2, 1, (0, 0, [], 0, 0)), (15, .iload_n 3, 1, (0, 0, [], 0, 0)), (16, .iload 4, 2, (0, 0, [], 0, 0)), (18, .iload 5, 2, (0, 0, [], 0, 0)), (20, .invokevirtual 229, 3, (6, 5, [(2, 0)], 4, 427)), (23, .iconst 1, 1, (0, 0, [], 0, 0)), (24, .ireturn, 1, (0, 0, [], 0, 0))]
def p_tb61 : am_T := [(0, .iload_n 1, 1, (0, 0, [], 0, 0)), (1, .invokestatic 97, 3, (56, 1, [], 0, 345)), (4, .ifCond .eq 11, 3, (15, 0, [], 0, 0)), (7, .iload_n 1, 1, (0, 0, [], 0, 0)), (8, .aload_n 0, 1, (0, 0, [], 0, 0)), (9, .invokevirtual 196, 3, (57, 0, [(8, 0)], 4, 349)), (12, .if_icmp .gt 6, 3, (18, 0, [], 0, 0)), (15, .bipush (-2), 2, (0, 0, [], 0, 0)), (17, .ireturn, 1, (0, 0, [], 0, 0)), (18, .aload_n 0, 1, (0, 0, [], 0, 0)), (19, .getfield 41, 3, (0, 0, [(8, 6)], 0, 137)), (22, .ifCond .eq 6, 3, (28, 0, [], 0, 0)), (25, .bipush (-5), 2, (0, 0, [], 0, 0)), (27, .ireturn, 1, (0, 0, [], 0, 0)), (28, .aload_n 0, 1, (0, 0, [], 0, 0)), (29, .getfield 37, 3, (0, 0, [(8, 5)], 0, 136)), (32, .ifCond .eq 6, 3, (38, 0, [], 0, 0)), (35, .bipush (-3), 2, (0, 0, [], 0, 0)), (37, .ireturn, 1, (0, 0, [], 0, 0)), (38, .aload_n 0, 1, (0, 0, [], 0, 0)), (39, .getfield 29, 3, (0, 0, [(8, 3)], 0, 134)), (42, .getfield 50, 3, (1, 0, [(1, 2)], 0, 123)), (45, .sipush 200, 3, (0, 0, [], 0, 0)), (48, .if_icmp .ge 12, 3, (60, 0, [], 0, 0)), (51, .aload_n 0, 1, (0, 0, [], 0, 0)), (52, .invokevirtual 232, 3, (62, 0, [(8, 0)], 4, 358)), (55, .bipush 100, 2, (0, 0, [], 0, 0)), (57, .if_icmp .le 6, 3, (63, 0, [], 0, 0)), (60, .bipush (-4), 2, (0, 0, [], 0, 0)), (62, .ireturn, 1, (0, 0, [], 0, 0)), (63, .iconst 0, 1, (0, 0, [], 0, 0)), (64, .ireturn, 1, (0, 0, [], 0, 0))]
def p_tb62 : am_T := [(0, .iconst 0, 1, (0, 0, [], 0, 0)), (1, .istore_n 1, 1, (0, 0, [], 0, 0)), (2, .iconst 0, 1, (0, 0, [], 0, 0)), (3, .istore_n 2, 1, (0, 0, [], 0, 0)), (4, .iload_n 2, 1, (0, 0, [], 0, 0)), (5, .aload_n 0, 1, (0, 0, [], 0, 0)), (6, .getfield 10, 3, (0, 0, [(8, 0)], 0, 131)), (9, .invokevirtual 53, 3, (118, 0, [(0, 0)], 4, 163)), (12, .if_icmp .ge 44, 3, (56, 0, [], 0, 0)), (15, .aload_n 0, 1, (0, 0, [], 0, 0)), (16, .getfield 10, 3, (0, 0, [(8, 0)], 0, 131)), (19, .iload_n 2, 1, (0, 0, [], 0, 0)), (20, .invokevirtual 199, 3, (120, 1, [(0, 0)], 4, 316)), (23, .checkcast 57, 3, (4, 0, [], 0, 0)), (26, .astore_n 3, 1, (0, 0, [], 0, 0)), (27, .iload_n 1, 1, (0, 0, [], 0, 0)), (28, .aload_n 3, 1, (0, 0, [], 0, 0)), (29, .getfield 119, 3, (1, 0, [(4, 5)], 0, 223)), (32, .invokevirtual 53, 3, (118, 0, [(0, 0)], 4, 163)), (35, .aload_n 3, 1, (0, 0, [], 0, 0)), (36, .getfield 78, 3, (1, 0, [(4, 4)], 0, 221)), (39, .ifCond .le 7, 3, (46, 0, [], 0, 0)), (42, .iconst 1, 1, (0, 0, [], 0, 0)), (43, .goto 4, 3, (47, 0, [], 0, 0)), (46, .iconst 0, 1, (0, 0, [], 0, 0)), (47, .iadd, 1, (0, 0, [], 0, 0)), (48, .iadd, 1, (0, 0, [], 0, 0)), (49, .istore_n 1, 1, (0, 0, [], 0, 0)), (50, .iinc 2 1, 3, (0, 0, [], 0, 0)), (53, .goto (-49), 3, (4, 0, [], 0, 0)), (56, .iload_n 1, 1, (0, 0, [], 0, 0)), (57, .ireturn, 1, (0, 0, [], 0, 0))]
def p_tb63 : am_T := [(0, .aload_n 0, 1, (0, 0, [], 0, 0)), (1, .getfield 29, 3, (0, 0, [(8, 3)], 0, 134)), (4, .dup, 1, (0, 0, [], 0, 0)), (5, .getfield 50, 3, (1, 0, [(1, 2)], 0, 123)), (8, .iconst 1, 1, (0, 0, [], 0, 0)), (9, .iadd, 1, (0, 0, [], 0, 0)), (10, .putfield 50, 3, (1, 0, [(1, 2)], 0, 123)), (13, .iconst 0, 1, (0, 0, [], 0, 0)), (14, .istore_n 2, 1, (0, 0, [], 0, 0)), (15, .iconst 0, 1, (0, 0, [], 0, 0)), (16, .istore_n 3, 1, (0, 0, [], 0, 0)), (17, .iload_n 3, 1, (0, 0, [], 0, 0)), (18, .aload_n 0, 1, (0, 0, [], 0, 0)), (19, .getfield 10, 3, (0, 0, [(8, 0)], 0, 131)), (22, .invokevirtual 53, 3, (118, 0, [(0, 0)], 4, 163)), (25, .if_icmp .ge 52, 3, (77, 0, [], 0, 0)), (28, .aload_n 0, 1, (0, 0, [], 0, 0)), (29, .getfield 10, 3, (0, 0, [(8, 0)], 0, 131)), (32, .iload_n 3, 1, (0, 0, [], 0, 0)), (33, .invokevirtual 199, 3, (120, 1, [(0, 0)], 4, 316)), (36, .checkcast 57, 3, (4, 0, [], 0, 0)), (39, .astore 4, 2, (0, 0, [], 0, 0)), (41, .aload 4, 2, (0, 0, [], 0, 0)), (43, .getfield 78, 3, (1, 0, [(4, 4)], 0, 221)), (46, .istore 5, 2, (0, 0, [], 0, 0)), (48, .iload 5, 2, (0, 0, [], 0, 0)), (50, .ifCond .le 16, 3, (66, 0, [], 0, 0)), (53, .aload_n 0, 1, (0, 0, [], 0, 0)), (54, .aload 4, 2, (0, 0, [], 0, 0)), (56, .iload_n 1, 1, (0, 0, [], 0, 0)), (57, .invokevirtual 235, 3, (64, 2, [(8, 0)], 4, 366)), (60, .ifCond .ne 6, 3, (66, 0, [], 0, 0)), (63, .bipush (-5), 2, (0, 0, [], 0, 0)), (65, .ireturn, 1, (0, 0, [], 0, 0)), (66, .iload_n 2, 1, (0, 0, [], 0, 0)), (67, .iload 5, 2, (0, 0, [], 0, 0)), (69, .iadd, 1, (0, 0, [], 0, 0)), (70, .istore_n 2, 1, (0, 0, [], 0, 0)), (71, .iinc 3 1, 3, (0, 0, [], 0, 0)), (74, .goto (-57), 3, (17, 0, [], 0, 0)), (77, .aload_n 0, 1, (0, 0, [], 0, 0)), (78, .getfield 29, 3, (0, 0, [(8, 3)], 0, 134)), (81, .iload_n 1, 1, (0, 0, [], 0, 0)), (82, .invokevirtual 239, 3, (1, 1, [(1, 0)], 4, 459)), (85, .iload_n 2, 1, (0, 0, [], 0, 0)), (86, .ireturn, 1, (0, 0, [], 0, 0))]
def p_tb64 : am_T := [(0, .new 148, 3, (5, 0, [], 0, 0)), (3, .dup, 1, (0, 0, [], 0, 0)), (4, .aload_n 1, 1, (0, 0, [], 0, 0)), (5, .getfield 119, 3, (1, 0, [(4, 5)], 0, 223)), (8, .invokevirtual 53, 3, (118, 0, [(0, 0)], 4, 163)), (11, .aload_n 0, 1, (0, 0, [], 0, 0)), (12, .getfield 22, 3, (0, 0, [(8, 2)], 0, 133)), (15, .invokevirtual 110, 3, (24, 0, [(2, 0)], 5, 372)), (18, .invokespecial 241, 3, (20, 2, [], 2, 378)), (21, .astore_n 3, 1, (0, 0, [], 0, 0)), (22, .iconst 0, 1, (0, 0, [], 0, 0)), (23, .istore 4, 2, (0, 0, [], 0, 0)), (25, .iload 4, 2, (0, 0, [], 0, 0)), (27, .aload_n 1, 1, (0, 0, [], 0, 0)), (28, .getfield 78, 3, (1, 0, [(4, 4)], 0, 221)), (31, .if_icmp .ge 72, 3, (103, 0, [], 0, 0)), (34, .iload 4, 2, (0, 0, [], 0, 0)), (36, .bipush 20, 2, (0, 0, [], 0, 0)), (38, .if_icmp .ge 65, 3, (103, 0, [], 0, 0)), (41, .aload_n 0, 1, (0, 0, [], 0, 0)), (42, .iconst 0, 1, (0, 0, [], 0, 0)), (43, .aload_n 1, 1, (0, 0, [], 0, 0)), (44, .getfield 242, 3, (1, 0, [(4, 0)], 0, 213)), (47, .aload_n 3, 1, (0, 0, [], 0, 0)), (48, .getfield 245, 3, (1, 0, [(5, 0)], 0, 383)), (51, .aload_n 1, 1, (0, 0, [], 0, 0)), (52, .getfield 246, 3, (1, 0, [(4, 2)], 0, 217)), (55, .iload 4, 2, (0, 0, [], 0, 0)), (57, .iaload, 1, (0, 0, [], 0, 0)), (58, .aload_n 1, 1, (0, 0, [], 0, 0)), (59, .getfield 249, 3, (1, 0, [(4, 3)], 0, 219)), (62, .iload 4, 2, (0, 0, [], 0, 0)), (64, .iaload, 1, (0, 0, [], 0, 0)), (65, .invokevirtual 252, 3, (60, 5, [(8, 0)], 4, 415)), (68, .ifCond .ne 5, 3, (73, 0, [], 0, 0)), (71, .iconst 0, 1, (0, 0, [], 0, 0)), (72, .ireturn, 1, (0, 0, [], 0, 0)), (73, .iload 4, 2, (0, 0, [], 0, 0)), (75, .ifCond .ne 12, 3, (87, 0, [], 0, 0)), (78, .aload_n 1, 1, (0, 0, [], 0, 0)), (79, .getfield 119, 3, (1, 0, [(4, 5)], 0, 223)), (82, .aload_n 3, 1, (0, 0, [], 0, 0)), (83, .invokevirtual 62, 3, (122, 1, [(0, 0)], 4, 253)), (86, .pop, 1, (0, 0, [], 0, 0)), (87, .aload_n 3, 1, (0, 0, [], 0, 0)), (88, .dup, 1, (0, 0, [], 0, 0)), (89, .getfield 152, 3, (1, 0, [(5, 2)], 0, 389)), (92, .iconst 1, 1, (0, 0, [], 0, 0)), (93, .iadd, 1, (0, 0, [], 0, 0)), (94, .putfield 152, 3, (1, 0, [(5, 2)], 0, 389)), (97, .iinc 4 1, 3, (0, 0, [], 0, 0)), (100, .goto (-75), 3, (25, 0, [], 0, 0)), (103, .aload_n 0, 1, (0, 0, [], 0, 0)), (104, .iconst 1, 1, (0, 0, [], 0, 0)), (105, .aload_n 1, 1, (0, 0, [], 0, 0)), (106, .getfield 242, 3, (1, 0, [(4, 0)], 0, 213)), (109, .aload_n 3, 1, (0, 0, [], 0, 0)), (110, .getfield 245, 3, (1, 0, [(5, 0)], 0, 383)), (113, .iload_n 2, 1, (0, 0, [], 0, 0)), (114, .bipush (-6), 2, (0, 0, [], 0, 0)), (116, .invokevirtual 252, 3, (60, 5, [(8, 0)], 4, 415)), (119, .ifCond .ne 5, 3, (124, 0, [], 0, 0)), (122, .iconst 0, 1, (0, 0, [], 0, 0)), (123, .ireturn, 1, (0, 0, [], 0, 0)), (124, .aload_n 3, 1, (0, 0, [], 0, 0)), (125, .iload_n 2, 1, (0, 0, [], 0, 0)), (126, .putfield 147, 3, (1, 0, [(5, 3)], 0, 392)), (129, .aload_n 3, 1, (0, 0, [], 0, 0)), (130, .iconst 1, 1, (0, 0, [], 0, 0)), (131, .putfield 155, 3, (1, 0, [(5, 4)], 0, 395)), (134, .aload_n 1, 1, (0, 0, [], 0, 0)), (135, .iconst 0, 1, (0, 0, [], 0, 0)), (136, .putfield 78, 3, (1, 0, [(4, 4)], 0, 221)), (139, .iconst 1, 1, (0, 0, [], 0, 0)), (140, .ireturn, 1, (0, 0, [], 0, 0))]
def p_tb65 : am_T := [(0, .aload_n 0, 1, (0, 0, [], 0, 0)), (1, .iload_n 1, 1, (0, 0, [], 0, 0)), (2, .bipush (-6), 2, (0, 0, [], 0, 0)), (4, .bipush (-6), 2, (0, 0, [], 0, 0)), (6, .iload_n 2, 1, (0, 0, [], 0, 0)), (7, .bipush (-6), 2, (0, 0, [], 0, 0)), (9, .invokevirtual 252, 3, (60, 5, [(8, 0)], 4, 415)), (12, .ifCond .ne 5, 3, (17, 0, [], 0, 0)), (15, .iconst 0, 1, (0, 0, [], 0, 0)), (16, .ireturn, 1, (0, 0, [], 0, 0)), (17, .aload_n 0, 1, (0, 0, [], 0, 0)), (18, .iload_n 2, 1, (0, 0, [], 0, 0)), (19, .putfield 33, 3, (0, 0, [(8, 4)], 0, 135)), (22, .iload_n 1, 1, (0, 0, [], 0, 0)), (23, .iconst 5, 1, (0, 0, [], 0, 0)), (24, .if_icmp .ne 8, 3, (32, 0, [], 0, 0)), (27, .aload_n 0, 1, (0, 0, [], 0, 0)), (28, .iconst 1, 1, (0, 0, [], 0, 0)), (29, .putfield 37, 3, (0, 0, [(8, 5)], 0, 136)), (32, .iconst 1, 1, (0, 0, [], 0, 0)), (33, .ireturn, 1, (0, 0, [], 0, 0))]
def p_tb66 : am_T := [(0, .iconst 0, 1, (0, 0, [], 0, 0)), (1, .istore_n 1, 1, (0, 0, [], 0, 0)), (2, .iconst 0, 1, (0, 0, [], 0, 0)), (3, .istore_n 2, 1, (0, 0, [], 0, 0)), (4, .iload_n 2, 1, (0, 0, [], 0, 0)), (5, .aload_n 0, 1, (0, 0, [], 0, 0)), (6, .getfield 10, 3, (0, 0, [(8, 0)], 0, 131)), (9, .invokevirtual 53, 3, (118, 0, [(0, 0)], 4, 163)), (12, .if_icmp .ge 38, 3, (50, 0, [], 0, 0)), (15, .aload_n 0, 1, (0, 0, [], 0, 0)), (16, .aload_n 0, 1, (0, 0, [], 0, 0)), (17, .getfield 10, 3, (0, 0, [(8, 0)], 0, 131)), (20, .iload_n 2, 1, (0, 0, [], 0, 0)), (21, .invokevirtual 199, 3, (120, 1, [(0, 0)], 4, 316)), (24, .checkcast 57, 3, (4, 0, [], 0, 0)), (27, .invokevirtual 256, 3, (67, 1, [(8, 0)], 4, 479)), (30, .istore_n 3, 1, (0, 0, [], 0, 0)), (31, .iload_n 3, 1, (0, 0, [], 0, 0)), (32, .bipush (-5), 2, (0, 0, [], 0, 0)), (34, .if_icmp .ne 6, 3, (40, 0, [], 0, 0)), (37, .bipush (-5), 2, (0, 0, [], 0, 0)), (39, .ireturn, 1, (0, 0, [], 0, 0)), (40, .iload_n 1, 1, (0, 0, [], 0, 0)), (41, .iload_n 3, 1, (0, 0, [], 0, 0)), (42, .iadd, 1, (0, 0, [], 0, 0)), (43, .istore_n 1, 1, (0, 0, [], 0, 0)), (44, .iinc 2 1, 3, (0, 0, [], 0, 0)), (47, .goto (-43), 3, (4, 0, [], 0, 0)), (50, .iload_n 1, 1, (0, 0, [], 0, 0)), (51, .ireturn, 1, (0, 0, [], 0, 0))]
def p_tb67 : am_T := [(0, .iconst 0, 1, (0, 0, [], 0, 0)), (1, .istore_n 2, 1, (0, 0, [], 0, 0)), (2, .iconst 0, 1, (0, 0, [], 0, 0)), (3, .istore_n 3, 1, (0, 0, [], 0, 0)), (4, .iload_n 3, 1, (0, 0, [], 0, 0)), (5, .aload_n 1, 1, (0, 0, [], 0, 0)), (6, .getfield 119, 3, (1, 0, [(4, 5)], 0, 223)), (9, .invokevirtual 53, 3, (118, 0, [(0, 0)], 4, 163)), (12, .if_icmp .ge 79, 3, (91, 0, [], 0, 0)), (15, .aload_n 1, 1, (0, 0, [], 0, 0)), (16, .getfield 119, 3, (1, 0, [(4, 5)], 0, 223)), (19, .iload_n 3, 1, (0, 0, [], 0, 0)), (20, .invokevirtual 199, 3, (120, 1, [(0, 0)], 4, 316)), (23, .checkcast 148, 3, (5, 0, [], 0, 0)), (26, .astore 4, 2, (0, 0, [], 0, 0)), (28, .aload 4, 2, (0, 0, [], 0, 0)), (30, .getfield 155, 3, (1, 0, [(5, 4)], 0, 395)), (33, .iconst 1, 1, (0, 0, [], 0, 0)), (34, .if_icmp .ne 51, 3, (85, 0, [], 0, 0)), (37, .aload 4, 2, (0, 0, [], 0, 0)), (39, .getfield 147, 3, (1, 0, [(5, 3)], 0, 392)), (42, .aload_n 0, 1, (0, 0, [], 0, 0)), (43, .getfield 33, 3, (0, 0, [(8, 4)], 0, 135)), (46, .if_icmp .le 6, 3, (52, 0, [], 0, 0)), (49, .goto 36, 3, (85, 0, [], 0, 0)), (52, .aload_n 1, 1, (0, 0, [], 0, 0)), (53, .invokevirtual 260, 3, (14, 0, [(4, 0)], 4, 483)), (56, .ifCond .eq 5, 3, (61, 0, [], 0, 0)), (59, .iload_n 2, 1, (0, 0, [], 0, 0)), (60, .ireturn, 1, (0, 0, [], 0, 0)), (61, .aload_n 0, 1, (0, 0, [], 0, 0)), (62, .aload_n 1, 1, (0, 0, [], 0, 0)), (63, .aload 4, 2, (0, 0, [], 0, 0)), (65, .invokevirtual 263, 3, (68, 2, [(8, 0)], 4, 487)), (68, .istore 5, 2, (0, 0, [], 0, 0)), (70, .iload 5, 2, (0, 0, [], 0, 0)), (72, .bipush (-5), 2, (0, 0, [], 0, 0)), (74, .if_icmp .ne 6, 3, (80, 0, [], 0, 0)), (77, .bipush (-5), 2, (0, 0, [], 0, 0)), (79, .ireturn, 1, (0, 0, [], 0, 0)), (80, .iload_n 2, 1, (0, 0, [], 0, 0)), (81, .iload 5, 2, (0, 0, [], 0, 0)), (83, .iadd, 1, (0, 0, [], 0, 0)), (84, .istore_n 2, 1, (0, 0, [], 0, 0)), (85, .iinc 3 1, 3, (0, 0, [], 0, 0)), (88, .goto (-84), 3, (4, 0, [], 0, 0)), (91, .iload_n 2, 1, (0, 0, [], 0, 0)), (92, .ireturn, 1, (0, 0, [], 0, 0))]
def p_tb68 : am_T := [(0, .iconst 0, 1, (0, 0, [], 0, 0)), (1, .istore_n 3, 1, (0, 0, [], 0, 0)), (2, .iconst 0, 1, (0, 0, [], 0, 0)), (3, .istore 4, 2, (0, 0, [], 0, 0)), (5, .iload 4, 2, (0, 0, [], 0, 0)), (7, .aload_n 2, 1, (0, 0, [], 0, 0)), (8, .getfield 152, 3, (1, 0, [(5, 2)], 0, 389)), (11, .if_icmp .ge 107, 3, (118, 0, [], 0, 0)), (14, .aload_n 0, 1, (0, 0, [], 0, 0)), (15, .invokevirtual 226, 3, (58, 0, [(8, 0)], 4, 419)), (18, .ifCond .ne 6, 3, (24, 0, [], 0, 0)), (21, .bipush (-5), 2, (0, 0, [], 0, 0)), (23, .ireturn, 1, (0, 0, [], 0, 0)), (24, .aload_n 0, 1, (0, 0, [], 0, 0)), (25, .getfield 22, 3, (0, 0, [(8, 2)], 0, 133)), (28, .aload_n 2, 1, (0, 0, [], 0, 0)), (29, .getfield 267, 3, (1, 0, [(5, 1)], 0, 386)), (32, .iload 4, 2, (0, 0, [], 0, 0)), (34, .iadd, 1, (0, 0, [], 0, 0)), (35, .iconst 3, 1, (0, 0, [], 0, 0)), (36, .invokevirtual 195, 3, (26, 2, [(2, 0)], 5, 491)), (39, .istore 5, 2, (0, 0, [], 0, 0)), (41, .aload_n 0, 1, (0, 0, [], 0, 0)), (42, .getfield 22, 3, (0, 0, [(8, 2)], 0, 133)), (45, .aload_n 2, 1, (0, 0, [], 0, 0)), (46, .getfield 267, 3, (1, 0, [(5, 1)], 0, 386)), (49, .iload 4, 2, (0, 0, [], 0, 0)), (51, .iadd, 1, (0, 0, [], 0, 0)), (52, .iconst 4, 1, (0, 0, [], 0, 0)), (53, .invokevirtual 195, 3, (26, 2, [(2, 0)], 5, 491)), (56, .istore 6, 2, (0, 0, [], 0, 0)), (58, .aload_n 1, 1, (0, 0, [], 0, 0)), (59, .getfield 116, 3, (1, 0, [(4, 1)], 0, 215)), (62, .ifCond .ne 23, 3, (85, 0, [], 0, 0)), (65, .aload_n 1, 1, (0, 0, [], 0, 0)), (66, .getfield 122, 3, (1, 0, [(4, 8)], 0, 229)), (69, .iload 5, 2, (0, 0, [], 0, 0)), (71, .iload 6, 2, (0, 0, [], 0, 0)), (73, .aload_n 2, 1, (0, 0, [], 0, 0)), (74, .getfield 245, 3, (1, 0, [(5, 0)], 0, 383)), (77, .iload 4, 2, (0, 0, [], 0, 0)), (79, .invokevirtual 270, 3, (8, 4, [(3, 0)], 4, 497)), (82, .goto 20, 3, (102, 0, [], 0, 0)), (85, .aload_n 1, 1, (0, 0, [], 0, 0)), (86, .getfield 129, 3, (1, 0, [(4, 9)], 0, 231)), (89, .iload 5, 2, (0, 0, [], 0, 0)), (91, .iload 6, 2, (0, 0, [], 0, 0)), (93, .aload_n 2, 1, (0, 0, [], 0, 0)), (94, .getfield 245, 3, (1, 0, [(5, 0)], 0, 383)), (97, .iload 4, 2, (0, 0, [], 0, 0)), (99, .invokevirtual 274, 3, (31, 4, [(7, 0)], 4, 517)), (102, .istore 7, 2, (0, 0, [], 0, 0)), (104, .iload 7, 2, (0, 0, [], 0, 0)), (106, .ifCond .eq 6, 3, (112, 0, [], 0, 0)), (109, .iinc 3 1, 3, (0, 0, [], 0, 0)), (112, .iinc 4 1, 3, (0, 0, [], 0, 0)), (115, .goto (-110), 3, (5, 0, [], 0, 0)), (118, .aload_n 0, 1, (0, 0, [], 0, 0)), (119, .iconst 3, 1, (0, 0, [], 0, 0)), (120, .aload_n 1, 1, (0, 0, [], 0, 0)), (121, .getfield 242, 3, (1, 0, [(4, 0)], 0, 213)), (124, .aload_n 2, 1, (0, 0, [], 0, 0)), (125, .getfield 245, 3, (1, 0, [(5, 0)], 0, 383)), (128, .bipush (-6), 2, (0, 0, [], 0, 0)), (130, .bipush (-6), 2, (0, 0, [], 0, 0)), (132, .invokevirtual 252, 3, (60, 5, [(8, 0)], 4, 415)), (135, .ifCond .ne 6, 3, (141, 0, [], 0, 0)), (138, .bipush (-5), 2, (0, 0, [], 0, 0)), (140, .ireturn, 1, (0, 0, [], 0, 0)), (141, .aload_n 2, 1, (0, 0, [], 0, 0)), (142, .iconst 2, 1, (0, 0, [], 0, 0)), (143, .putfield 155, 3, (1, 0, [(5, 4)], 0, 395)), (146, .iload_n 3, 1, (0, 0, [], 0, 0)), (147, .ireturn, 1, (0, 0, [], 0, 0))]
def p_tb69 : am_T := [(0, .iconst 0, 1, (0, 0, [], 0, 0)), (1, .istore_n 2, 1, (0, 0, [], 0, 0)), (2, .iconst 0, 1, (0, 0, [], 0, 0)), (3, .istore_n 3, 1, (0, 0, [], 0, 0)), (4, .iload_n 3, 1, (0, 0, [], 0, 0)), (5, .aload_n 0, 1, (0, 0, [], 0, 0)), (6, .getfield 10, 3, (0, 0, [(8, 0)], 0, 131)), (9, .invokevirtual 53, 3, (118, 0, [(0, 0)], 4, 163)), (12, .if_icmp .ge 58, 3, (70, 0, [], 0, 0)), (15, .aload_n 0, 1, (0, 0, [], 0, 0)), (16, .getfield 10, 3, (0, 0, [(8, 0)], 0, 131)), (19, .iload_n 3, 1, (0, 0, [], 0, 0)), (20, .invokevirtual 199, 3, (120, 1, [(0, 0)], 4, 316)), (23, .checkcast 57, 3, (4, 0, [], 0, 0)), (26, .astore 4, 2, (0, 0, [], 0, 0)), (28, .aload_n 0, 1, (0, 0, [], 0, 0)), (29, .aload 4, 2, (0, 0, [], 0, 0)), (31, .iload_n 1, 1, (0, 0, [], 0, 0)), (32, .invokevirtual 275, 3, (70, 2, [(8, 0)], 4, 538)), (35, .istore 5, 2, (0, 0, [], 0, 0)), (37, .iload 5, 2, (0, 0, [], 0, 0)), (39, .bipush (-5), 2, (0, 0, [], 0, 0)), (41, .if_icmp .ne 6, 3, (47, 0, [], 0, 0)), (44, .bipush (-5), 2, (0, 0, [], 0, 0)), (46, .ireturn, 1, (0, 0, [], 0, 0)), (47, .iload_n 2, 1, (0, 0, [], 0, 0)), (48, .iload 5, 2, (0, 0, [], 0, 0)), (50, .aload 4, 2, (0, 0, [], 0, 0)), (52, .getfield 78, 3, (1, 0, [(4, 4)], 0, 221)), (55, .iadd, 1, (0, 0, [], 0, 0)), (56, .iadd, 1, (0, 0, [], 0, 0)), (57, .istore_n 2, 1, (0, 0, [], 0, 0)), (58, .aload 4, 2, (0, 0, [], 0, 0)), (60, .iconst 0, 1, (0, 0, [], 0, 0)), (61, .putfield 78, 3, (1, 0, [(4, 4)], 0, 221)), (64, .iinc 3 1, 3, (0, 0, [], 0, 0)), (67, .goto (-63), 3, (4, 0, [], 0, 0)), (70, .iload_n 2, 1, (0, 0, [], 0, 0)), (71, .ireturn, 1, (0, 0, [], 0, 0))]
def p_tb70 : am_T := [(0, .iconst 0, 1, (0, 0, [], 0, 0)), (1, .istore_n 3, 1, (0, 0, [], 0, 0)), (2, .iconst 0, 1, (0, 0, [], 0, 0)), (3, .istore 4, 2, (0, 0, [], 0, 0)), (5, .iload 4, 2, (0, 0, [], 0, 0)), (7, .aload_n 1, 1, (0, 0, [], 0, 0)), (8, .getfield 119, 3, (1, 0, [(4, 5)], 0, 223)), (11, .invokevirtual 53, 3, (118, 0, [(0, 0)], 4, 163)), (14, .if_icmp .ge 82, 3, (96, 0, [], 0, 0)), (17, .aload_n 1, 1, (0, 0, [], 0, 0)), (18, .getfield 119, 3, (1, 0, [(4, 5)], 0, 223)), (21, .iload 4, 2, (0, 0, [], 0, 0)), (23, .invokevirtual 199, 3, (120, 1, [(0, 0)], 4, 316)), (26, .checkcast 148, 3, (5, 0, [], 0, 0)), (29, .astore 5, 2, (0, 0, [], 0, 0)), (31, .aload 5, 2, (0, 0, [], 0, 0)), (33, .getfield 155, 3, (1, 0, [(5, 4)], 0, 395)), (36, .iconst 1, 1, (0, 0, [], 0, 0)), (37, .if_icmp .ne 53, 3, (90, 0, [], 0, 0)), (40, .aload 5, 2, (0, 0, [], 0, 0)), (42, .getfield 147, 3, (1, 0, [(5, 3)], 0, 392)), (45, .iload_n 2, 1, (0, 0, [], 0, 0)), (46, .if_icmp .ge 6, 3, (52, 0, [], 0, 0)), (49, .goto 41, 3, (90, 0, [], 0, 0)), (52, .aload_n 0, 1, (0, 0, [], 0, 0)), (53, .iconst 4, 1, (0, 0, [], 0, 0)), (54, .aload_n 1, 1, (0, 0, [], 0, 0)), (55, .getfield 242, 3, (1, 0, [(4, 0)], 0, 213)), (58, .aload 5, 2, (0, 0, [], 0, 0)), (60, .getfield 245, 3, (1, 0, [(5, 0)], 0, 383)), (63, .bipush (-6), 2, (0, 0, [], 0, 0)), (65, .bipush (-6), 2, (0, 0, [], 0, 0)), (67, .invokevirtual 252, 3, (60, 5, [(8, 0)], 4, 415)), (70, .ifCond .ne 6, 3, (76, 0, [], 0, 0)), (73, .bipush (-5), 2, (0, 0, [], 0, 0)), (75, .ireturn, 1, (0, 0, [], 0, 0)), (76, .aload 5, 2, (0, 0, [], 0, 0)), (78, .iconst 3, 1, (0, 0, [], 0, 0)), (79, .putfield 155, 3, (1, 0, [(5, 4)], 0, 395)), (82, .iload_n 3, 1, (0, 0, [], 0, 0)), (83, .aload 5, 2, (0, 0, [], 0, 0)), (85, .getfield 152, 3, (1, 0, [(5, 2)], 0, 389)), (88, .iadd, 1, (0, 0, [], 0, 0)), (89, .istore_n 3, 1, (0, 0, [], 0, 0)), (90, .iinc 4 1, 3, (0, 0, [], 0, 0)), (93, .goto (-88), 3, (5, 0, [], 0, 0)), (96, .iload_n 3, 1, (0, 0, [], 0, 0)), (97, .ireturn, 1, (0, 0, [], 0, 0))]
def p_tb71 : am_T := [(0, .aload_n 0, 1, (0, 0, [], 0, 0)), (1, .invokespecial 1, 3, (0, 0, [], 10, 683)), (4, .aload_n 0, 1, (0, 0, [], 0, 0)), (5, .iconst 3, 1, (0, 0, [], 0, 0)), (6, .newarray .int, 2, (0, 0, [], 0, 0)), (8, .putfield 7, 3, (0, 0, [(9, 1)], 0, 685)), (11, .aload_n 0, 1, (0, 0, [], 0, 0)), (12, .iconst 3, 1, (0, 0, [], 0, 0)), (13, .newarray .int, 2, (0, 0, [], 0, 0)), (15, .putfield 13, 3, (0, 0, [(9, 2)], 0, 686)), (18, .aload_n 0, 1, (0, 0, [], 0, 0)), (19, .bipush 60, 2, (0, 0, [], 0, 0)), (21, .newarray .int, 2, (0, 0, [], 0, 0)), (23, .putfield 16, 3, (0, 0, [(9, 3)], 0, 687)), (26, .aload_n 0, 1, (0, 0, [], 0, 0)), (27, .bipush 60, 2, (0, 0, [], 0, 0)), (29, .newarray .int, 2, (0, 0, [], 0, 0)), (31, .putfield 19, 3, (0, 0, [(9, 4)], 0, 688)), (34, .aload_n 0, 1, (0, 0, [], 0, 0)), (35, .iconst 3, 1, (0, 0, [], 0, 0)), (36, .newarray .int, 2, (0, 0, [], 0, 0)), (38, .putfield 22, 3, (0, 0, [(9, 5)], 0, 689)), (41, .aload_n 0, 1, (0, 0, [], 0, 0)), (42, .iconst 3, 1, (0, 0, [], 0, 0)), (43, .newarray .int, 2, (0, 0, [], 0, 0)), (45, .putfield 25, 3, (0, 0, [(9, 6)], 0, 690)), (48, .aload_n 0, 1, (0, 0, [], 0, 0)), (49, .iconst 3, 1, (0, 0, [], 0, 0)), (50, .newarray .int, 2, (0, 0, [], 0, 0)), (52, .putfield 28, 3, (0, 0, [(9, 7)], 0, 691)), (55, .aload_n 0, 1, (0, 0, [], 0, 0)), (56, .sipush 4000, 3, (0, 0, [], 0, 0)), (59, .newarray .int, 2, (0, 0, [], 0, 0)), (61, .putfield 31, 3, (0, 0, [(9, 9)], 0, 693)), (64, .aload_n 0, 1, (0, 0, [], 0, 0)), (65, .sipush 4000, 3, (0, 0, [], 0, 0)), (68, .newarray .int, 2, (0, 0, [], 0, 0)), (70, .putfield 34, 3, (0, 0, [(9, 10)], 0, 694)), (73, .aload_n 0, 1, (0, 0, [], 0, 0)), (74, .sipush 4000, 3, (0, 0, [], 0, 0)), (77, .newarray .int, 2, (0, 0, [], 0, 0)), (79, .putfield 37, 3, (0, 0, [(9, 11)], 0, 695)), (82, .aload_n 0, 1, (0, 0, [], 0, 0)), (83, .sipush 4000, 3, (0, 0, [], 0, 0)), (86, .newarray .int, 2, (0, 0, [], 0, 0)), (88, .putfield 40, 3, (0, 0, [(9, 12)], 0, 696)), (91, .aload_n 0, 1, (0, 0, [], 0, 0)), (92, .sipush 4000, 3, (0, 0, [], 0, 0)), (95, .newarray .int, 2, (0, 0, [], 0, 0)), (97, .putfield 43, 3, (0, 0, [(9, 13)], 0, 697)), (100, .aload_n 0, 1, (0, 0, [], 0, 0)), (101, .iconst 3, 1, (0, 0, [], 0, 0)), (102, .newarray .int, 2, (0, 0, [], 0, 0)), (104, .putfield 46, 3, (0, 0, [(9, 14)], 0, 698)), (107, .aload_n 0, 1, (0, 0, [], 0, 0)), (108, .sipush 6000, 3, (0, 0, [], 0, 0)), (111, .newarray .int, 2, (0, 0, [], 0, 0)), (113, .putfield 49, 3, (0, 0, [(9, 15)], 0, 699)), (116, .aload_n 0, 1, (0, 0, [], 0, 0)), (117, .sipush 6000, 3, (0, 0, [], 0, 0)), (120, .newarray .int, 2, (0, 0, [], 0, 0)), (122, .putfield 52, 3, (0, 0, [(9, 16)], 0, 700)), (125, .aload_n 0, 1, (0, 0, [], 0, 0)), (126, .sipush 6000, 3, (0, 0, [], 0, 0)), (129, .newarray .int, 2, (0, 0, [], 0, 0)), (131, .putfield 55, 3, (0, 0, [(9, 17)], 0, 701)), (134, .aload_n 0, 1, (0, 0, [], 0, 0)), (135, .sipush 6000, 3, (0, 0, [], 0, 0)), (138, .newarray .int, 2, (0, 0, [], 0, 0)), (140, .putfield 58, 3, (0, 0, [(9, 18)], 0, 702)), (143, .aload_n 0, 1, (0, 0, [], 0, 0)), (144, .bipush 30, 2, (0, 0, [], 0, 0)), (146, .newarray .int, 2, (0, 0, [], 0, 0)), (148, .putfield 61, 3, (0, 0, [(9, 19)], 0, 703)), (151, .aload_n 0, 1, (0, 0, [], 0, 0)), (152, .bipush 30, 2, (0, 0, [], 0, 0)), (154, .newarray .int, 2, (0, 0, [], 0, 0)), (156, .putfield 64, 3, (0, 0, [(9, 20)], 0, 704)), (159, .aload_n 0, 1, (0, 0, [], 0, 0)), (160, .bipush 30, 2, (0, 0, [], 0, 0)), (162, .newarray .int, 2, (0, 0, [], 0, 0)), (164, .putfield 67, 3, (0, 0, [(9, 21)], 0, 705)), (167, .aload_n 0, 1, (0, 0, [], 0, 0)), (168, .iconst 4, 1, (0, 0, [], 0, 0)), (169, .newarray .int, 2, (0, 0, [], 0, 0)), (171, .putfield 70, 3, (0, 0, [(9, 23)], 0, 707)), (174, .aload_n 0, 1, (0, 0, [], 0, 0)), (175, .iconst 4, 1, (0, 0, [], 0, 0)), (176, .newarray .int, 2, (0, 0, [], 0, 0)), (178, .putfield 73, 3, (0, 0, [(9, 24)], 0, 708)), (181, .aload_n 0, 1, (0, 0, [], 0, 0)), (182, .bipush (-6), 2, (0, 0, [], 0, 0)), (184, .putfield 76, 3, (0, 0, [(9, 25)], 0, 709)), (187, .aload_n 0, 1, (0, 0, [], 0, 0)), (188, .sipush 201, 3, (0, 0, [], 0, 0)), (191, .newarray .int, 2, (0, 0, [], 0, 0)), (193, .putfield 80, 3, (0, 0, [(9, 26)], 0, 710)), (196, .aload_n 0, 1, (0, 0, [], 0, 0)), (197, .bipush (-6), 2, (0, 0, [], 0, 0)), (199, .putfield 83, 3, (0, 0, [(9, 31)], 0, 715)), (202, .iconst 0, 1, (0, 0, [], 0, 0)), (203, .istore_n 1, 1, (0, 0, [], 0, 0)), (204, .iload_n 1, 1, (0, 0, [], 0, 0)), (205, .bipush 30, 2, (0, 0, [], 0, 0)), (207, .if_icmp .ge 17, 3, (224, 0, [], 0, 0)), (210, .aload_n 0, 1, (0, 0, [], 0, 0)), (211, .getfield 61, 3, (0, 0, [(9, 19)], 0, 703)), (214, .iload_n 1, 1, (0, 0, [], 0, 0)), (215, .bipush (-6), 2, (0, 0, [], 0, 0)), (217, .iastore, 1, (0, 0, [], 0, 0)), (218, .iinc 1 1, 3, (0, 0, [], 0, 0)), (221, .goto (-17), 3, (204, 0, [], 0, 0)), (224, .return_, 1, (0, 0, [], 0, 0))]
def p_tb72 : am_T := [(0, .iload_n 0, 1, (0, 0, [], 0, 0)), (1, .iload_n 1, 1, (0, 0, [], 0, 0)), (2, .if_icmp .le 7, 3, (9, 0, [], 0, 0)), (5, .iload_n 0, 1, (0, 0, [], 0, 0)), (6, .goto 4, 3, (10, 0, [], 0, 0)), (9, .iload_n 1, 1, (0, 0, [], 0, 0)), (10, .ireturn, 1, (0, 0, [], 0, 0))]
def p_tb73 : am_T := [(0, .iload_n 0, 1, (0, 0, [], 0, 0)), (1, .iload_n 1, 1, (0, 0, [], 0, 0)), (2, .if_icmp .ge 7, 3, (9, 0, [], 0, 0)), (5, .iload_n 0, 1, (0, 0, [], 0, 0)), (6, .goto 4, 3, (10, 0, [], 0, 0)), (9, .iload_n 1, 1, (0, 0, [], 0, 0)), (10, .ireturn, 1, (0, 0, [], 0, 0))]
def p_tb74 : am_T := [(0, .iload_n 0, 1, (0, 0, [], 0, 0)), (1, .iload_n 1, 1, (0, 0, [], 0, 0)), (2, .if_icmp .lt 8, 3, (10, 0, [], 0, 0)), (5, .iload_n 0, 1, (0, 0, [], 0, 0)), (6, .iload_n 2, 1, (0, 0, [], 0, 0)), (7, .if_icmp .le 7, 3, (14, 0, [], 0, 0)), (10, .iconst 1, 1, (0, 0, [], 0, 0)), (11, .goto 4, 3, (15, 0, [], 0, 0)), (14, .iconst 0, 1, (0, 0, [], 0, 0)), (15, .ireturn, 1, (0, 0, [], 0, 0))]
def p_tb75 : am_T := [(0, .iload_n 1, 1, (0, 0, [], 0, 0)), (1, .iconst 0, 1, (0, 0, [], 0, 0)), (2, .aload_n 0, 1, (0, 0, [], 0, 0)), (3, .getfield 86, 3, (0, 0, [(9, 0)], 0, 684)), (6, .iconst 1, 1, (0, 0, [], 0, 0)), (7, .isub, 1, (0, 0, [], 0, 0)), (8, .invokestatic 89, 3, (74, 3, [], 0, 791)), (11, .ireturn, 1, (0, 0, [], 0, 0))]
def p_tb76 : am_T := [(0, .aload_n 0, 1, (0, 0, [], 0, 0)), (1, .getfield 83, 3, (0, 0, [(9, 31)], 0, 715)), (4, .bipush (-6), 2, (0, 0, [], 0, 0)), (6, .if_icmp .eq 37, 3, (43, 0, [], 0, 0)), (9, .aload_n 0, 1, (0, 0, [], 0, 0)), (10, .dup, 1, (0, 0, [], 0, 0)), (11, .getfield 83, 3, (0, 0, [(9, 31)], 0, 715)), (14, .iconst 1, 1, (0, 0, [], 0, 0)), (15, .isub, 1, (0, 0, [], 0, 0)), (16, .putfield 83, 3, (0, 0, [(9, 31)], 0, 715)), (19, .aload_n 0, 1, (0, 0, [], 0, 0)), (20, .getfield 83, 3, (0, 0, [(9, 31)], 0, 715)), (23, .ifCond .ne 20, 3, (43, 0, [], 0, 0)), (26, .aload_n 0, 1, (0, 0, [], 0, 0)), (27, .bipush (-6), 2, (0, 0, [], 0, 0)), (29, .putfield 83, 3, (0, 0, [(9, 31)], 0, 715)), (32, .aload_n 0, 1, (0, 0, [], 0, 0)), (33, .iconst 1, 1, (0, 0, [], 0, 0)), (34, .putfield 93, 3, (0, 0, [(9, 30)], 0, 714)), (37, .aload_n 0, 1, (0, 0, [], 0, 0)), (38, .invokevirtual 97, 3, (77, 0, [(9, 0)], 4, 830)), (41, .iconst 0, 1, (0, 0, [], 0, 0)), (42, .ireturn, 1, (0, 0, [], 0, 0)), (43, .aload_n 0, 1, (0, 0, [], 0, 0)), (44, .dup, 1, (0, 0, [], 0, 0)), (45, .getfield 100, 3, (0, 0, [(9, 32)], 0, 716)), (48, .iconst 1, 1, (0, 0, [], 0, 0)), (49, .iadd, 1, (0, 0, [], 0, 0)), (50, .putfield 100, 3, (0, 0, [(9, 32)], 0, 716)), (53, .iconst 1, 1, (0, 0, [], 0, 0)), (54, .ireturn, 1, (0, 0, [], 0, 0))]
def p_tb77 : am_T := [(0, .iconst 0, 1, (0, 0, [], 0, 0)), (1, .istore_n 1, 1, (0, 0, [], 0, 0)), (2, .iload_n 1, 1, (0, 0, [], 0, 0)), (3, .iconst 3, 1, (0, 0, [], 0, 0)), (4, .if_icmp .ge 16, 3, (20, 0, [], 0, 0)), (7, .aload_n 0, 1, (0, 0, [], 0, 0)), (8, .getfield 13, 3, (0, 0, [(9, 2)], 0, 686)), (11, .iload_n 1, 1, (0, 0, [], 0, 0)), (12, .iconst 0, 1, (0, 0, [], 0, 0)), (13, .iastore, 1, (0, 0, [], 0, 0)), (14, .iinc 1 1, 3, (0, 0, [], 0, 0)), (17, .goto (-15), 3, (2, 0, [], 0, 0)), (20, .return_, 1, (0, 0, [], 0, 0))]
def p_tb78 : am_T := [(0, .aload_n 0, 1, (0, 0, [], 0, 0)), (1, .invokevirtual 103, 3, (76, 0, [(9, 0)], 4, 826)), (4, .ifCond .ne 5, 3, (9, 0, [], 0, 0)), (7, .iconst 0, 1, (0, 0, [], 0, 0)), (8, .ireturn, 1, (0, 0, [], 0, 0)), (9, .aload_n 0, 1, (0, 0, [], 0, 0)), (10, .getfield 31, 3, (0, 0, [(9, 9)], 0, 693)), (13, .aload_n 0, 1, (0, 0, [], 0, 0)), (14, .getfield 107, 3, (0, 0, [(9, 8)], 0, 692)), (17, .iload_n 1, 1, (0, 0, [], 0, 0)), (18, .iastore, 1, (0, 0, [], 0, 0)), (19, .aload_n 0, 1, (0, 0, [], 0, 0)), (20, .getfield 34, 3, (0, 0, [(9, 10)], 0, 694)), (23, .aload_n 0, 1, (0, 0, [], 0, 0)), (24, .getfield 107, 3, (0, 0, [(9, 8)], 0, 692)), (27, .iload_n 2, 1, (0, 0, [], 0, 0)), (28, .iastore, 1, (0, 0, [], 0, 0)), (29, .aload_n 0, 1, (0, 0, [], 0, 0)), (30, .getfield 37, 3, (0, 0, [(9, 11)], 0, 695)), (33, .aload_n 0, 1, (0, 0, [], 0, 0)), (34, .getfield 107, 3, (0, 0, [(9, 8)], 0, 692)), (37, .iload_n 3, 1, (0, 0, [], 0, 0)), (38, .iastore, 1, (0, 0, [], 0, 0)), (39, .aload_n 0, 1, (0, 0, [], 0, 0)), (40, .getfield 40, 3, (0, 0, [(9, 12)], 0, 696)), (43, .aload_n 0, 1, (0, 0, [], 0, 0)), (44, .getfield 107, 3, (0, 0, [(9, 8)], 0, 692)), (47, .iload 4, 2, (0, 0, [], 0, 0)), (49, .iastore, 1, (0, 0, [], 0, 0)), (50, .aload_n 0, 1, (0, 0, [], 0, 0)), (51, .getfield 43, 3, (0, 0, [(9, 13)], 0, 697)), (54, .aload_n 0, 1, (0, 0, [], 0, 0)), (55, .getfield 107, 3, (0, 0, [(9, 8)], 0, 692)), (58, .iload 5, 2, (0, 0, [], 0, 0)), (60, .iastore, 1, (0, 0, [], 0, 0)), (61, .aload_n 0, 1, (0, 0, [], 0, 0)), (62, .dup, 1, (0, 0, [], 0, 0)), (63, .getfield 107, 3, (0, 0, [(9, 8)], 0, 692)), (66, .iconst 1, 1, (0, 0, [], 0, 0)), (67, .iadd, 1, (0, 0, [], 0, 0)), (68, .putfield 107, 3, (0, 0, [(9, 8)], 0, 692)), (71, .iconst 1, 1, (0, 0, [], 0, 0)), (72, .ireturn, 1, (0, 0, [], 0, 0))]
def p_tb79 : am_T := [(0, .iconst 0, 1, (0, 0, [], 0, 0)), (1, .istore_n 3, 1, (0, 0, [], 0, 0)), (2, .iconst 0, 1, (0, 0, [], 0, 0)), (3, .istore 4, 2, (0, 0, [], 0, 0)), (5, .iload 4, 2, (0, 0, [], 0, 0)), (7, .aload_n 0, 1, (0, 0, [], 0, 0)), (8, .getfield 107, 3, (0, 0, [(9, 8)], 0, 692)), (11, .if_icmp .ge 49, 3, (60, 0, [], 0, 0)), (14, .iload_n 3, 1, (0, 0, [], 0, 0)), (15, .aload_n 0, 1, (0, 0, [], 0, 0)), (16, .getfield 31, 3, (0, 0, [(9, 9)], 0, 693)), (19, .iload 4, 2, (0, 0, [], 0, 0)), (21, .iaload, 1, (0, 0, [], 0, 0)), (22, .ifCond .ne 29, 3, (51, 0, [], 0, 0)), (25, .aload_n 0, 1, (0, 0, [], 0, 0)), (26, .getfield 34, 3, (0, 0, [(9, 10)], 0, 694)), (29, .iload 4, 2, (0, 0, [], 0, 0)), (31, .iaload, 1, (0, 0, [], 0, 0)), (32, .iload_n 1, 1, (0, 0, [], 0, 0)), (33, .if_icmp .ne 18, 3, (51, 0, [], 0, 0)), (36, .aload_n 0, 1, (0, 0, [], 0, 0)), (37, .getfield 37, 3, (0, 0, [(9, 11)], 0, 695)), (40, .iload 4, 2, (0, 0, [], 0, 0)), (42, .iaload, 1, (0, 0, [], 0, 0)), (43, .iload_n 2, 1, (0, 0, [], 0, 0)), (44, .if_icmp .ne 7, 3, (51, 0, [], 0, 0)), (47, .iconst 1, 1, (0, 0, [], 0, 0)), (48, .goto 4, 3, (52, 0, [], 0, 0)), (51, .iconst 0, 1, (0, 0, [], 0, 0)), (52, .iadd, 1, (0, 0, [], 0, 0)), (53, .istore_n 3, 1, (0, 0, [], 0, 0)), (54, .iinc 4 1, 3, (0, 0, [], 0, 0)), (57, .goto (-52), 3, (5, 0, [], 0, 0)), (60, .iload_n 3, 1, (0, 0, [], 0, 0)), (61, .ireturn, 1, (0, 0, [], 0, 0))]
def p_tb80 : am_T := [(0, .iconst 0, 1, (0, 0, [], 0, 0)), (1, .istore_n 3, 1, (0, 0, [], 0, 0)), (2, .iconst 0, 1, (0, 0, [], 0, 0)), (3, .istore 4, 2, (0, 0, [], 0, 0)), (5, .iload 4, 2, (0, 0, [], 0, 0)), (7, .aload_n 0, 1, (0, 0, [], 0, 0)), (8, .getfield 107, 3, (0, 0, [(9, 8)], 0, 692)), (11, .if_icmp .ge 78, 3, (89, 0, [], 0, 0)), (14, .aload_n 0, 1, (0, 0, [], 0, 0)), (15, .getfield 34, 3, (0, 0, [(9, 10)], 0, 694)), (18, .iload 4, 2, (0, 0, [], 0, 0)), (20, .iaload, 1, (0, 0, [], 0, 0)), (21, .iload_n 1, 1, (0, 0, [], 0, 0)), (22, .if_icmp .ne 61, 3, (83, 0, [], 0, 0)), (25, .aload_n 0, 1, (0, 0, [], 0, 0)), (26, .getfield 37, 3, (0, 0, [(9, 11)], 0, 695)), (29, .iload 4, 2, (0, 0, [], 0, 0)), (31, .iaload, 1, (0, 0, [], 0, 0)), (32, .iload_n 2, 1, (0, 0, [], 0, 0)), (33, .if_icmp .ne 50, 3, (83, 0, [], 0, 0)), (36, .aload_n 0, 1, (0, 0, [], 0, 0)), (37, .getfield 31, 3, (0, 0, [(9, 9)], 0, 693)), (40, .iload 4, 2, (0, 0, [], 0, 0)), (42, .iaload, 1, (0, 0, [], 0, 0)), (43, .iconst 1, 1, (0, 0, [], 0, 0)), (44, .if_icmp .ne 7, 3, (51, 0, [], 0, 0)), (47, .iconst 1, 1, (0, 0, [], 0, 0)), (48, .goto 34, 3, (82, 0, [], 0, 0)), (51, .aload_n 0, 1, (0, 0, [], 0, 0)), (52, .getfield 31, 3, (0, 0, [(9, 9)], 0, 693)), (55, .iload 4, 2, (0, 0, [], 0, 0)), (57, .iaload, 1, (0, 0, [], 0, 0)), (58, .iconst 3, 1, (0, 0, [], 0, 0)), (59, .if_icmp .ne 7, 3, (66, 0, [], 0, 0)), (62, .iconst 2, 1, (0, 0, [], 0, 0)), (63, .goto 19, 3, (82, 0, [], 0, 0)), (66, .aload_n 0, 1, (0, 0, [], 0, 0)), (67, .getfield 31, 3, (0, 0, [(9, 9)], 0, 693)), (70, .iload 4, 2, (0, 0, [], 0, 0)), (72, .iaload, 1, (0, 0, [], 0, 0)), (73, .iconst 4, 1, (0, 0, [], 0, 0)), (74, .if_icmp .ne 7, 3, (81, 0, [], 0, 0)), (77, .iconst 3, 1, (0, 0, [], 0, 0)), (78, .goto 4, 3, (82, 0, [], 0, 0)), (81, .iload_n 3, 1, (0, 0, [], 0, 0)), (82, .istore_n 3, 1, (0, 0, [], 0, 0)), (83, .iinc 4 1, 3, (0, 0, [], 0, 0)), (86, .goto (-81), 3, (5, 0, [], 0, 0)), (89, .iload_n 3, 1, (0, 0, [], 0, 0)), (90, .ireturn, 1, (0, 0, [], 0, 0))]
def p_tb81 : am_T := [(0, .iconst 0, 1, (0, 0, [], 0, 0)), (1, .istore_n 3, 1, (0, 0, [], 0, 0)), (2, .iload_n 3, 1, (0, 0, [], 0, 0)), (3, .aload_n 0, 1, (0, 0, [], 0, 0)), (4, .getfield 107, 3, (0, 0, [(9, 8)], 0, 692)), (7, .if_icmp .ge 46, 3, (53, 0, [], 0, 0)), (10, .aload_n 0, 1, (0, 0, [], 0, 0)), (11, .getfield 31, 3, (0, 0, [(9, 9)], 0, 693)), (14, .iload_n 3, 1, (0, 0, [], 0, 0)), (15, .iaload, 1, (0, 0, [], 0, 0)), (16, .iconst 1, 1, (0, 0, [], 0, 0)), (17, .if_icmp .ne 30, 3, (47, 0, [], 0, 0)), (20, .aload_n 0, 1, (0, 0, [], 0, 0)), (21, .getfield 34, 3, (0, 0, [(9, 10)], 0, 694)), (24, .iload_n 3, 1, (0, 0, [], 0, 0)), (25, .iaload, 1, (0, 0, [], 0, 0)), (26, .iload_n 1, 1, (0, 0, [], 0, 0)), (27, .if_icmp .ne 20, 3, (47, 0, [], 0, 0)), (30, .aload_n 0, 1, (0, 0, [], 0, 0)), (31, .getfield 37, 3, (0, 0, [(9, 11)], 0, 695)), (34, .iload_n 3, 1, (0, 0, [], 0, 0)), (35, .iaload, 1, (0, 0, [], 0, 0)), (36, .iload_n 2, 1, (0, 0, [], 0, 0)), (37, .if_icmp .ne 10, 3, (47, 0, [], 0, 0)), (40, .aload_n 0, 1, (0, 0, [], 0, 0)), (41, .getfield 40, 3, (0, 0, [(9, 12)], 0, 696)), (44, .iload_n 3, 1, (0, 0, [], 0, 0)), (45, .iaload, 1, (0, 0, [], 0, 0)), (46, .ireturn, 1, (0, 0, [], 0, 0)), (47, .iinc 3 1, 3, (0, 0, [], 0, 0)), (50, .goto (-48), 3, (2, 0, [], 0, 0)), (53, .bipush (-6), 2, (0, 0, [], 0, 0)), (55, .ireturn, 1, (0, 0, [], 0, 0))]
def p_tb82 : am_T := [(0, .iload_n 1, 1, (0, 0, [], 0, 0)), (1, .iconst 0, 1, (0, 0, [], 0, 0)), (2, .iconst 1, 1, (0, 0, [], 0, 0)), (3, .invokestatic 89, 3, (74, 3, [], 0, 791)), (6, .ifCond .eq 6, 3, (12, 0, [], 0, 0)), (9, .bipush (-2), 2, (0, 0, [], 0, 0)), (11, .ireturn, 1, (0, 0, [], 0, 0)), (12, .aload_n 0, 1, (0, 0, [], 0, 0)), (13, .getfield 93, 3, (0, 0, [(9, 30)], 0, 714)), (16, .ifCond .eq 6, 3, (22, 0, [], 0, 0)), (19, .bipush (-5), 2, (0, 0, [], 0, 0)), (21, .ireturn, 1, (0, 0, [], 0, 0)), (22, .aload_n 0, 1, (0, 0, [], 0, 0)), (23, .getfield 110, 3, (0, 0, [(9, 28)], 0, 712)), (26, .ifCond .le 6, 3, (32, 0, [], 0, 0)), (29, .bipush (-3), 2, (0, 0, [], 0, 0)), (31, .ireturn, 1, (0, 0, [], 0, 0)), (32, .aload_n 0, 1, (0, 0, [], 0, 0)), (33, .getfield 86, 3, (0, 0, [(9, 0)], 0, 684)), (36, .iconst 3, 1, (0, 0, [], 0, 0)), (37, .if_icmp .ne 6, 3, (43, 0, [], 0, 0)), (40, .bipush (-4), 2, (0, 0, [], 0, 0)), (42, .ireturn, 1, (0, 0, [], 0, 0)), (43, .aload_n 0, 1, (0, 0, [], 0, 0)), (44, .getfield 7, 3, (0, 0, [(9, 1)], 0, 685)), (47, .aload_n 0, 1, (0, 0, [], 0, 0)), (48, .getfield 86, 3, (0, 0, [(9, 0)], 0, 684)), (51, .iload_n 1, 1, (0, 0, [], 0, 0)), (52, .iastore, 1, (0, 0, [], 0, 0)), (53, .aload_n 0, 1, (0, 0, [], 0, 0)), (54, .dup, 1, (0, 0, [], 0, 0)), (55, .getfield 86, 3, (0, 0, [(9, 0)], 0, 684)), (58, .iconst 1, 1, (0, 0, [], 0, 0)), (59, .iadd, 1, (0, 0, [], 0, 0)), (60, .putfield 86, 3, (0, 0, [(9, 0)], 0, 684)), (63, .aload_n 0, 1, (0, 0, [], 0, 0)), (64, .getfield 86, 3, (0, 0, [(9, 0)], 0, 684)), (67, .iconst 1, 1, (0, 0, [], 0, 0)), (68, .isub, 1, (0, 0, [], 0, 0)), (69, .ireturn, 1, (0, 0, [], 0, 0))]
def p_tb83 : am_T := [(0, .aload_n 0, 1, (0, 0, [], 0, 0)), (1, .iload_n 1, 1, (0, 0, [], 0, 0)), (2, .invokevirtual 113, 3, (75, 1, [(9, 0)], 4, 798)), (5, .ifCond .eq 5, 3, (10, 0, [], 0, 0)), (8, .iconst (-1), 1, (0, 0, [], 0, 0)), (9, .ireturn, 1, (0, 0, [], 0, 0)), (10, .iload_n 2, 1, (0, 0, [], 0, 0)), (11, .iconst 0, 1, (0, 0, [], 0, 0)), (12, .bipush 9, 2, (0, 0, [], 0, 0)), (14, .invokestatic 89, 3, (74, 3, [], 0, 791)), (17, .ifCond .eq 6, 3, (23, 0, [], 0, 0)), (20, .bipush (-2), 2, (0, 0, [], 0, 0)), (22, .ireturn, 1, (0, 0, [], 0, 0)), (23, .aload_n 0, 1, (0, 0, [], 0, 0)), (24, .getfield 93, 3, (0, 0, [(9, 30)], 0, 714)), (27, .ifCond .eq 6, 3, (33, 0, [], 0, 0)), (30, .bipush (-5), 2, (0, 0, [], 0, 0)), (32, .ireturn, 1, (0, 0, [], 0, 0)), (33, .aload_n 0, 1, (0, 0, [], 0, 0)), (34, .getfield 117, 3, (0, 0, [(9, 29)], 0, 713)), (37, .ifCond .eq 6, 3, (43, 0, [], 0, 0)), (40, .bipush (-3), 2, (0, 0, [], 0, 0)), (42, .ireturn, 1, (0, 0, [], 0, 0)), (43, .aload_n 0, 1, (0, 0, [], 0, 0)), (44, .getfield 13, 3, (0, 0, [(9, 2)], 0, 686)), (47, .iload_n 1, 1, (0, 0, [], 0, 0)), (48, .iaload, 1, (0, 0, [], 0, 0)), (49, .bipush 20, 2, (0, 0, [], 0, 0)), (51, .if_icmp .ne 6, 3, (57, 0, [], 0, 0)), (54, .bipush (-4), 2, (0, 0, [], 0, 0)), (56, .ireturn, 1, (0, 0, [], 0, 0)), (57, .bipush 20, 2, (0, 0, [], 0, 0)), (59, .iload_n 1, 1, (0, 0, [], 0, 0)), (60, .imul, 1, (0, 0, [], 0, 0)), (61, .aload_n 0, 1, (0, 0, [], 0, 0)), (62, .getfield 13, 3, (0, 0, [(9, 2)], 0, 686)), (65, .iload_n 1, 1, (0, 0, [], 0, 0)), (66, .iaload, 1, (0, 0, [], 0, 0)), (67, .iadd, 1, (0, 0, [], 0, 0)), (68, .istore 4, 2, (0, 0, [], 0, 0)), (70, .aload_n 0, 1, (0, 0, [], 0, 0)), (71, .getfield 16, 3, (0, 0, [(9, 3)], 0, 687)), (74, .iload 4, 2, (0, 0, [], 0, 0)), (76, .iload_n 2, 1, (0, 0, [], 0, 0)), (77, .iastore, 1, (0, 0, [], 0, 0)), (78, .aload_n 0, 1, (0, 0, [], 0, 0)), (79, .getfield 19, 3, (0, 0, [(9, 4)], 0, 688)), (82, .iload 4, 2, (0, 0, [], 0, 0)), (84, .iload_n 3, 1, (0, 0, [], 0, 0)), (85, .iastore, 1, (0, 0, [], 0, 0)), (86, .aload_n 0, 1, (0, 0, [], 0, 0)), (87, .getfield 13, 3, (0, 0, [(9, 2)], 0, 686)), (90, .iload_n 1, 1, (0, 0, [], 0, 0)), (91, .dup2, 1, (0, 0, [], 0, 0)), (92, .iaload, 1, (0, 0, [], 0, 0)), (93, .iconst 1, 1, (0, 0, [], 0, 0)), (94, .iadd, 1, (0, 0, [], 0, 0)), (95, .iastore, 1, (0, 0, [], 0, 0)), (96, .aload_n 0, 1, (0, 0, [], 0, 0)), (97, .getfield 13, 3, (0, 0, [(9, 2)], 0, 686)), (100, .iload_n 1, 1, (0, 0, [], 0, 0)), (101, .iaload, 1, (0, 0, [], 0, 0)), (102, .ireturn, 1, (0, 0, [], 0, 0))]
def p_tb84 : am_T := [(0, .aload_n 0, 1, (0, 0, [], 0, 0)), (1, .getfield 120, 3, (0, 0, [(9, 27)], 0, 711)), (4, .ifCond .le 24, 3, (28, 0, [], 0, 0)), (7, .aload_n 0, 1, (0, 0, [], 0, 0)), (8, .getfield 76, 3, (0, 0, [(9, 25)], 0, 709)), (11, .aload_n 0, 1, (0, 0, [], 0, 0)), (12, .getfield 80, 3, (0, 0, [(9, 26)], 0, 710)), (15, .aload_n 0, 1, (0, 0, [], 0, 0)), (16, .getfield 120, 3, (0, 0, [(9, 27)], 0, 711)), (19, .iconst 1, 1, (0, 0, [], 0, 0)), (20, .isub, 1, (0, 0, [], 0, 0)), (21, .iaload, 1, (0, 0, [], 0, 0)), (22, .invokestatic 123, 3, (72, 2, [], 0, 814)), (25, .goto 7, 3, (32, 0, [], 0, 0)), (28, .aload_n 0, 1, (0, 0, [], 0, 0)), (29, .getfield 76, 3, (0, 0, [(9, 25)], 0, 709)), (32, .ireturn, 1, (0, 0, [], 0, 0))]
def p_tb85 : am_T := [(0, .aload_n 0, 1, (0, 0, [], 0, 0)), (1, .invokevirtual 127, 3, (84, 0, [(9, 0)], 4, 810)), (4, .istore_n 2, 1, (0, 0, [], 0, 0)), (5, .iload_n 1, 1, (0, 0, [], 0, 0)), (6, .iconst 0, 1, (0, 0, [], 0, 0)), (7, .ldc 131, 2, (0, 0, [], 1000000, 0)), (9, .invokestatic 89, 3, (74, 3, [], 0, 791)), (12, .ifCond .ne 14, 3, (26, 0, [], 0, 0)), (15, .iload_n 2, 1, (0, 0, [], 0, 0)), (16, .bipush (-6), 2, (0, 0, [], 0, 0)), (18, .if_icmp .eq 11, 3, (29, 0, [], 0, 0)), (21, .iload_n 1, 1, (0, 0, [], 0, 0)), (22, .iload_n 2, 1, (0, 0, [], 0, 0)), (23, .if_icmp .gt 6, 3, (29, 0, [], 0, 0)), (26, .bipush (-2), 2, (0, 0, [], 0, 0)), (28, .ireturn, 1, (0, 0, [], 0, 0)), (29, .aload_n 0, 1, (0, 0, [], 0, 0)), (30, .getfield 93, 3, (0, 0, [(9, 30)], 0, 714)), (33, .ifCond .eq 6, 3, (39, 0, [], 0, 0)), (36, .bipush (-5), 2, (0, 0, [], 0, 0)), (38, .ireturn, 1, (0, 0, [], 0, 0)), (39, .aload_n 0, 1, (0, 0, [], 0, 0)), (40, .getfield 117, 3, (0, 0, [(9, 29)], 0, 713)), (43, .ifCond .eq 6, 3, (49, 0, [], 0, 0)), (46, .bipush (-3), 2, (0, 0, [], 0, 0)), (48, .ireturn, 1, (0, 0, [], 0, 0)), (49, .iconst 0, 1, (0, 0, [], 0, 0)), (50, .istore_n 3, 1, (0, 0, [], 0, 0)), (51, .iconst 0, 1, (0, 0, [], 0, 0)), (52, .istore 4, 2, (0, 0, [], 0, 0)), (54, .iload 4, 2, (0, 0, [], 0, 0)), (56, .aload_n 0, 1, (0, 0, [], 0, 0)), (57, .getfield 86, 3, (0, 0, [(9, 0)], 0, 684)), (60, .if_icmp .ge 35, 3, (95, 0, [], 0, 0)), (63, .iload_n 3, 1, (0, 0, [], 0, 0)), (64, .aload_n 0, 1, (0, 0, [], 0, 0)), (65, .getfield 22, 3, (0, 0, [(9, 5)], 0, 689)), (68, .iload 4, 2, (0, 0, [], 0, 0)), (70, .iaload, 1, (0, 0, [], 0, 0)), (71, .aload_n 0, 1, (0, 0, [], 0, 0)), (72, .getfield 13, 3, (0, 0, [(9, 2)], 0, 686)), (75, .iload 4, 2, (0, 0, [], 0, 0)), (77, .iaload, 1, (0, 0, [], 0, 0)), (78, .ifCond .le 7, 3, (85, 0, [], 0, 0)), (81, .iconst 1, 1, (0, 0, [], 0, 0)), (82, .goto 4, 3, (86, 0, [], 0, 0)), (85, .iconst 0, 1, (0, 0, [], 0, 0)), (86, .iadd, 1, (0, 0, [], 0, 0)), (87, .iadd, 1, (0, 0, [], 0, 0)), (88, .istore_n 3, 1, (0, 0, [], 0, 0)), (89, .iinc 4 1, 3, (0, 0, [], 0, 0)), (92, .goto (-38), 3, (54, 0, [], 0, 0)), (95, .aload_n 0, 1, (0, 0, [], 0, 0)), (96, .getfield 110, 3, (0, 0, [(9, 28)], 0, 712)), (99, .sipush 200, 3, (0, 0, [], 0, 0)), (102, .if_icmp .eq 9, 3, (111, 0, [], 0, 0)), (105, .iload_n 3, 1, (0, 0, [], 0, 0)), (106, .bipush 100, 2, (0, 0, [], 0, 0)), (108, .if_icmp .le 8, 3, (116, 0, [], 0, 0)), (111, .bipush (-4), 2, (0, 0, [], 0, 0)), (113, .goto 4, 3, (117, 0, [], 0, 0)), (116, .iconst 0, 1, (0, 0, [], 0, 0)), (117, .ireturn, 1, (0, 0, [], 0, 0))]
def p_tb86 : am_T := [(0, .aload_n 0, 1, (0, 0, [], 0, 0)), (1, .dup, 1, (0, 0, [], 0, 0)), (2, .getfield 110, 3, (0, 0, [(9, 28)], 0, 712)), (5, .iconst 1, 1, (0, 0, [], 0, 0)), (6, .iadd, 1, (0, 0, [], 0, 0)), (7, .putfield 110, 3, (0, 0, [(9, 28)], 0, 712)), (10, .iconst 0, 1, (0, 0, [], 0, 0)), (11, .istore_n 2, 1, (0, 0, [], 0, 0)), (12, .iconst 0, 1, (0, 0, [], 0, 0)), (13, .istore_n 3, 1, (0, 0, [], 0, 0)), (14, .iload_n 3, 1, (0, 0, [], 0, 0)), (15, .aload_n 0, 1, (0, 0, [], 0, 0)), (16, .getfield 86, 3, (0, 0, [(9, 0)], 0, 684)), (19, .if_icmp .ge 121, 3, (140, 0, [], 0, 0)), (22, .aload_n 0, 1, (0, 0, [], 0, 0)), (23, .getfield 13, 3, (0, 0, [(9, 2)], 0, 686)), (26, .iload_n 3, 1, (0, 0, [], 0, 0)), (27, .iaload, 1, (0, 0, [], 0, 0)), (28, .istore 4, 2, (0, 0, [], 0, 0)), (30, .iload 4, 2, (0, 0, [], 0, 0)), (32, .ifCond .le 102, 3, (134, 0, [], 0, 0)), (35, .aload_n 0, 1, (0, 0, [], 0, 0)), (36, .getfield 22, 3, (0, 0, [(9, 5)], 0, 689)), (39, .iload_n 3, 1, (0, 0, [], 0, 0)), (40, .iaload, 1, (0, 0, [], 0, 0)), (41, .istore 5, 2, (0, 0, [], 0, 0)), (43, .iconst 0, 1, (0, 0, [], 0, 0)), (44, .istore 6, 2, (0, 0, [], 0, 0)), (46, .iload 6, 2, (0, 0, [], 0, 0)), (48, .iload 4, 2, (0, 0, [], 0, 0)), (50, .if_icmp .ge 60, 3, (110, 0, [], 0, 0)), (53, .aload_n 0, 1, (0, 0, [], 0, 0)), (54, .iconst 0, 1, (0, 0, [], 0, 0)), (55, .iload_n 3, 1, (0, 0, [], 0, 0)), (56, .iload 5, 2, (0, 0, [], 0, 0)), (58, .aload_n 0, 1, (0, 0, [], 0, 0)), (59, .getfield 16, 3, (0, 0, [(9, 3)], 0, 687)), (62, .bipush 20, 2, (0, 0, [], 0, 0)), (64, .iload_n 3, 1, (0, 0, [], 0, 0)), (65, .imul, 1, (0, 0, [], 0, 0)), (66, .iload 6, 2, (0, 0, [], 0, 0)), (68, .iadd, 1, (0, 0, [], 0, 0)), (69, .iaload, 1, (0, 0, [], 0, 0)), (70, .aload_n 0, 1, (0, 0, [], 0, 0)), (71, .getfield 19, 3, (0, 0, [(9, 4)], 0, 688)), (74, .bipush 20, 2, (0, 0, [], 0, 0)), (76, .iload_n 3, 1, (0, 0, [], 0, 0)), (77, .imul, 1, (0, 0, [], 0, 0)), (78, .iload 6, 2, (0, 0, [], 0, 0)), (80, .iadd, 1, (0, 0, [], 0, 0)), (81, .iaload, 1, (0, 0, [], 0, 0)), (82, .invokevirtual 132, 3, (78, 5, [(9, 0)], 4, 822)), (85, .ifCond .ne 6, 3, (91, 0, [], 0, 0)), (88, .bipush (-5), 2, (0, 0, [], 0, 0)), (90, .ireturn, 1, (0, 0, [], 0, 0)), (91, .aload_n 0, 1, (0, 0, [], 0, 0)), (92, .getfield 22, 3, (0, 0, [(9, 5)], 0, 689)), (95, .iload_n 3, 1, (0, 0, [], 0, 0)), (96, .iload 5, 2, (0, 0, [], 0, 0)), (98, .iconst 1, 1, (0, 0, [], 0, 0)), (99, .iadd, 1, (0, 0, [], 0, 0)), (100, .iastore, 1, (0, 0, [], 0, 0)), (101, .iinc 2 1, 3, (0, 0, [], 0, 0)), (104, .iinc 6 1, 3, (0, 0, [], 0, 0)), (107, .goto (-61), 3, (46, 0, [], 0, 0)), (110, .aload_n 0, 1, (0, 0, [], 0, 0)), (111, .iconst 1, 1, (0, 0, [], 0, 0)), (112, .iload_n 3, 1, (0, 0, [], 0, 0)), (113, .iload 5, 2, (0, 0, [], 0, 0)), (115, .iload_n 1, 1, (0, 0, [], 0, 0)), (116, .bipush (-6), 2, (0, 0, [], 0, 0)), (118, .invokevirtual 132, 3, (78, 5, [(9, 0)], 4, 822)), (121, .ifCond .ne 6, 3, (127, 0, [], 0, 0)), (124, .bipush (-5), 2, (0, 0, [], 0, 0)), (126, .ireturn, 1, (0, 0, [], 0, 0)), (127, .aload_n 0, 1, (0, 0, [], 0, 0)), (128, .getfield 13, 3, (0, 0, [(9, 2)], 0, 686)), (131, .iload_n 3, 1, (0, 0, [], 0, 0)), (132, .iconst 0, 1, (0, 0, [], 0, 0)), (133, .iastore, 1, (0, 0, [], 0, 0)), (134, .iinc 3 1, 3, (0, 0, [], 0, 0)), (137, .goto (-123), 3, (14, 0, [], 0, 0)), (140, .aload_n 0, 1, (0, 0, [], 0, 0)), (141, .getfield 80, 3, (0, 0, [(9, 26)], 0, 710)), (144, .aload_n 0, 1, (0, 0, [], 0, 0)), (145, .getfield 120, 3, (0, 0, [(9, 27)], 0, 711)), (148, .iload_n 1, 1, (0, 0, [], 0, 0)), (149, .iastore, 1, (0, 0, [], 0, 0)), (150, .aload_n 0, 1, (0, 0, [], 0, 0)), (151, .dup, 1, (0, 0, [], 0, 0)), (152, .getfield 120, 3, (0, 0, [(9, 27)], 0, 711)), (155, .iconst 1, 1, (0, 0, [], 0, 0)), (156, .iadd, 1, (0, 0, [], 0, 0)), (157, .putfield 120, 3, (0, 0, [(9, 27)], 0, 711)), (160, .iload_n 2, 1, (0, 0, [], 0, 0)), (161, .ireturn, 1, (0, 0, [], 0, 0))]
def p_tb87 : am_T := [(0, .aload_n 0, 1, (0, 0, [], 0, 0)), (1, .iload_n 1, 1, (0, 0, [], 0, 0)), (2, .invokevirtual 136, 3, (85, 1, [(9, 0)], 4, 806)), (5, .istore_n 2, 1, (0, 0, [], 0, 0)), (6, .iload_n 2, 1, (0, 0, [], 0, 0)), (7, .ifCond .eq 7, 3, (14, 0, [], 0, 0)), (10, .iload_n 2, 1, (0, 0, [], 0, 0)), (11, .goto 8, 3, (19, 0, [], 0, 0)), (14, .aload_n 0, 1, (0, 0, [], 0, 0)), (15, .iload_n 1, 1, (0, 0, [], 0, 0)), (16, .invokevirtual 140, 3, (86, 1, [(9, 0)], 4, 818)), (19, .ireturn, 1, (0, 0, [], 0, 0))]
def p_tb88 : am_T := [(0, .iconst 0, 1, (0, 0, [], 0, 0)), (1, .istore_n 2, 1, (0, 0, [], 0, 0)), (2, .iconst 0, 1, (0, 0, [], 0, 0)), (3, .istore_n 3, 1, (0, 0, [], 0, 0)), (4, .iload_n 3, 1, (0, 0, [], 0, 0)), (5, .aload_n 0, 1, (0, 0, [], 0, 0)), (6, .getfield 120, 3, (0, 0, [(9, 27)], 0, 711)), (9, .if_icmp .ge 27, 3, (36, 0, [], 0, 0)), (12, .iload_n 2, 1, (0, 0, [], 0, 0)), (13, .aload_n 0, 1, (0, 0, [], 0, 0)), (14, .getfield 80, 3, (0, 0, [(9, 26)], 0, 710)), (17, .iload_n 3, 1, (0, 0, [], 0, 0)), (18, .iaload, 1, (0, 0, [], 0, 0)), (19, .iload_n 1, 1, (0, 0, [], 0, 0)), (20, .if_icmp .ne 7, 3, (27, 0, [], 0, 0)), (23, .iconst 1, 1, (0, 0, [], 0, 0)), (24, .goto 4, 3, (28, 0, [], 0, 0)), (27, .iconst 0, 1, (0, 0, [], 0, 0)), (28, .ior, 1, (0, 0, [], 0, 0)), (29, .istore_n 2, 1, (0, 0, [], 0, 0)), (30, .iinc 3 1, 3, (0, 0, [], 0, 0)), (33, .goto (-29), 3, (4, 0, [], 0, 0)), (36, .iload_n 2, 1, (0, 0, [], 0, 0)), (37, .ifCond .eq 20, 3, (57, 0, [], 0, 0)), (40, .aload_n 0, 1, (0, 0, [], 0, 0)), (41, .getfield 76, 3, (0, 0, [(9, 25)], 0, 709)), (44, .bipush (-6), 2, (0, 0, [], 0, 0)), (46, .if_icmp .eq 14, 3, (60, 0, [], 0, 0)), (49, .iload_n 1, 1, (0, 0, [], 0, 0)), (50, .aload_n 0, 1, (0, 0, [], 0, 0)), (51, .getfield 76, 3, (0, 0, [(9, 25)], 0, 709)), (54, .if_icmp .gt 6, 3, (60, 0, [], 0, 0)), (57, .bipush (-2), 2, (0, 0, [], 0, 0)), (59, .ireturn, 1, (0, 0, [], 0, 0)), (60, .aload_n 0, 1, (0, 0, [], 0, 0)), (61, .getfield 93, 3, (0, 0, [(9, 30)], 0, 714)), (64, .ifCond .ne 18, 3, (82, 0, [], 0, 0)), (67, .aload_n 0, 1, (0, 0, [], 0, 0)), (68, .iconst 2, 1, (0, 0, [], 0, 0)), (69, .bipush (-6), 2, (0, 0, [], 0, 0)), (71, .bipush (-6), 2, (0, 0, [], 0, 0)), (73, .iload_n 1, 1, (0, 0, [], 0, 0)), (74, .bipush (-6), 2, (0, 0, [], 0, 0)), (76, .invokevirtual 132, 3, (78, 5, [(9, 0)], 4, 822)), (79, .ifCond .ne 6, 3, (85, 0, [], 0, 0)), (82, .bipush (-5), 2, (0, 0, [], 0, 0)), (84, .ireturn, 1, (0, 0, [], 0, 0)), (85, .aload_n 0, 1, (0, 0, [], 0, 0)), (86, .iload_n 1, 1, (0, 0, [], 0, 0)), (87, .putfield 76, 3, (0, 0, [(9, 25)], 0, 709)), (90, .aload_n 0, 1, (0, 0, [], 0, 0)), (91, .invokevirtual 143, 3, (90, 0, [(9, 0)], 4, 838)), (94, .ireturn, 1, (0, 0, [], 0, 0))]
def p_tb89 : am_T := [(0, .aload_n 0, 1, (0, 0, [], 0, 0)), (1, .getfield 93, 3, (0, 0, [(9, 30)], 0, 714)), (4, .ifCond .eq 8, 3, (12, 0, [], 0, 0)), (7, .bipush (-5), 2, (0, 0, [], 0, 0)), (9, .goto 7, 3, (16, 0, [], 0, 0)), (12, .aload_n 0, 1, (0, 0, [], 0, 0)), (13, .invokevirtual 143, 3, (90, 0, [(9, 0)], 4, 838)), (16, .ireturn, 1, (0, 0, [], 0, 0))]
def p_tb90 : am_T := [(0, .iconst 0, 1, (0, 0, [], 0, 0)), (1, .istore_n 1, 1, (0, 0, [], 0, 0)), (2, .iconst 0, 1, (0, 0, [], 0, 0)), (3, .istore_n 2, 1, (0, 0, [], 0, 0)), (4, .iload_n 2, 1, (0, 0, [], 0, 0)), (5, .aload_n 0, 1, (0, 0, [], 0, 0)), (6, .getfield 86, 3, (0, 0, [(9, 0)], 0, 684)), (9, .if_icmp .ge 125, 3, (134, 0, [], 0, 0)), (12, .iconst 0, 1, (0, 0, [], 0, 0)), (13, .istore_n 3, 1, (0, 0, [], 0, 0)), (14, .iconst 0, 1, (0, 0, [], 0, 0)), (15, .istore 4, 2, (0, 0, [], 0, 0)), (17, .iload 4, 2, (0, 0, [], 0, 0)), (19, .aload_n 0, 1, (0, 0, [], 0, 0)), (20, .getfield 22, 3, (0, 0, [(9, 5)], 0, 689)), (23, .iload_n 2, 1, (0, 0, [], 0, 0)), (24, .iaload, 1, (0, 0, [], 0, 0)), (25, .if_icmp .ge 103, 3, (128, 0, [], 0, 0)), (28, .iload_n 3, 1, (0, 0, [], 0, 0)), (29, .ifCond .ne 99, 3, (128, 0, [], 0, 0)), (32, .aload_n 0, 1, (0, 0, [], 0, 0)), (33, .getfield 76, 3, (0, 0, [(9, 25)], 0, 709)), (36, .bipush (-6), 2, (0, 0, [], 0, 0)), (38, .if_icmp .eq 84, 3, (122, 0, [], 0, 0)), (41, .aload_n 0, 1, (0, 0, [], 0, 0)), (42, .iload_n 2, 1, (0, 0, [], 0, 0)), (43, .iload 4, 2, (0, 0, [], 0, 0)), (45, .invokevirtual 146, 3, (80, 2, [(9, 0)], 4, 842)), (48, .iconst 1, 1, (0, 0, [], 0, 0)), (49, .if_icmp .ne 73, 3, (122, 0, [], 0, 0)), (52, .aload_n 0, 1, (0, 0, [], 0, 0)), (53, .iload_n 2, 1, (0, 0, [], 0, 0)), (54, .iload 4, 2, (0, 0, [], 0, 0)), (56, .invokevirtual 149, 3, (81, 2, [(9, 0)], 4, 846)), (59, .aload_n 0, 1, (0, 0, [], 0, 0)), (60, .getfield 76, 3, (0, 0, [(9, 25)], 0, 709)), (63, .if_icmp .gt 59, 3, (122, 0, [], 0, 0)), (66, .aload_n 0, 1, (0, 0, [], 0, 0)), (67, .getfield 25, 3, (0, 0, [(9, 6)], 0, 690)), (70, .iload_n 2, 1, (0, 0, [], 0, 0)), (71, .dup2, 1, (0, 0, [], 0, 0)), (72, .iaload, 1, (0, 0, [], 0, 0)), (73, .iconst 1, 1, (0, 0, [], 0, 0)), (74, .iadd, 1, (0, 0, [], 0, 0)), (75, .iastore, 1, (0, 0, [], 0, 0)), (76, .aload_n 0, 1, (0, 0, [], 0, 0)), (77, .getfield 28, 3, (0, 0, [(9, 7)], 0, 691)), (80, .iload_n 2, 1, (0, 0, [], 0, 0)), (81, .iaload, 1, (0, 0, [], 0, 0)), (82, .ifCond .le 18, 3, (100, 0, [], 0, 0)), (85, .aload_n 0, 1, (0, 0, [], 0, 0)), (86, .getfield 28, 3, (0, 0, [(9, 7)], 0, 691)), (89, .iload_n 2, 1, (0, 0, [], 0, 0)), (90, .dup2, 1, (0, 0, [], 0, 0)), (91, .iaload, 1, (0, 0, [], 0, 0)), (92, .iconst 1, 1, (0, 0, [], 0, 0)), (93, .isub, 1, (0, 0, [], 0, 0)), (94, .iastore, 1, (0, 0, [], 0, 0)), (95, .iconst 1, 1, (0, 0, [], 0, 0)), (96, .istore_n 3, 1, (0, 0, [], 0, 0)), (97, .goto 25, 3, (122, 0, [], 0, 0)), (100, .aload_n 0, 1, (0, 0, [], 0, 0)), (101, .iload_n 2, 1, (0, 0, [], 0, 0)), (102, .iload 4, 2, (0, 0, [], 0, 0)), (104, .invokevirtual 152, 3, (91, 2, [(9, 0)], 4, 850)), (107, .istore 5, 2, (0, 0, [], 0, 0)), (109, .iload 5, 2, (0, 0, [], 0, 0)), (111, .ifCond .ge 6, 3, (117, 0, [], 0, 0)), (114, .bipush (-5), 2, (0, 0, [], 0, 0)), (116, .ireturn, 1, (0, 0, [], 0, 0)), (117, .iload_n 1, 1, (0, 0, [], 0, 0)), (118, .iload 5, 2, (0, 0, [], 0, 0)), (120, .iadd, 1, (0, 0, [], 0, 0)), (121, .istore_n 1, 1, (0, 0, [], 0, 0)), (122, .iinc 4 1, 3, (0, 0, [], 0, 0)), (125, .goto (-108), 3, (17, 0, [], 0, 0)), (128, .iinc 2 1, 3, (0, 0, [], 0, 0)), (131, .goto (-127), 3, (4, 0, [], 0, 0)), (134, .iload_n 1, 1, (0, 0, [], 0, 0)), (135, .ireturn, 1, (0, 0, [], 0, 0))]
def p_tb91 : am_T := [(0, .iconst 0, 1, (0, 0, [], 0, 0)), (1, .istore_n 3, 1, (0, 0, [], 0, 0)), (2, .iconst 0, 1, (0, 0, [], 0, 0)), (3, .istore 4, 2, (0, 0, [], 0, 0)), (5, .aload_n 0, 1, (0, 0, [], 0, 0)), (6, .getfield 107, 3, (0, 0, [(9, 8)], 0, 692)), (9, .istore 5, 2, (0, 0, [], 0, 0)), (11, .iconst 0, 1, (0, 0, [], 0, 0)), (12, .istore 6, 2, (0, 0, [], 0, 0)), (14, .iload 6, 2, (0, 0, [], 0, 0)), (16, .iload 5, 2, (0, 0, [], 0, 0)), (18, .if_icmp .ge 89, 3, (107, 0, [], 0, 0)), (21, .aload_n 0, 1, (0, 0, [], 0, 0)), (22, .getfield 31, 3, (0, 0, [(9, 9)], 0, 693)), (25, .iload 6, 2, (0, 0, [], 0, 0)), (27, .iaload, 1, (0, 0, [], 0, 0)), (28, .ifCond .ne 73, 3, (101, 0, [], 0, 0)), (31, .aload_n 0, 1, (0, 0, [], 0, 0)), (32, .getfield 34, 3, (0, 0, [(9, 10)], 0, 694)), (35, .iload 6, 2, (0, 0, [], 0, 0)), (37, .iaload, 1, (0, 0, [], 0, 0)), (38, .iload_n 1, 1, (0, 0, [], 0, 0)), (39, .if_icmp .ne 62, 3, (101, 0, [], 0, 0)), (42, .aload_n 0, 1, (0, 0, [], 0, 0)), (43, .getfield 37, 3, (0, 0, [(9, 11)], 0, 695)), (46, .iload 6, 2, (0, 0, [], 0, 0)), (48, .iaload, 1, (0, 0, [], 0, 0)), (49, .iload_n 2, 1, (0, 0, [], 0, 0)), (50, .if_icmp .ne 51, 3, (101, 0, [], 0, 0)), (53, .aload_n 0, 1, (0, 0, [], 0, 0)), (54, .invokevirtual 103, 3, (76, 0, [(9, 0)], 4, 826)), (57, .ifCond .ne 6, 3, (63, 0, [], 0, 0)), (60, .bipush (-5), 2, (0, 0, [], 0, 0)), (62, .ireturn, 1, (0, 0, [], 0, 0)), (63, .iload_n 3, 1, (0, 0, [], 0, 0)), (64, .aload_n 0, 1, (0, 0, [], 0, 0)), (65, .getfield 7, 3, (0, 0, [(9, 1)], 0, 685)), (68, .iload_n 1, 1, (0, 0, [], 0, 0)), (69, .iaload, 1, (0, 0, [], 0, 0)), (70, .ifCond .ne 16, 3, (86, 0, [], 0, 0)), (73, .aload_n 0, 1, (0, 0, [], 0, 0)), (74, .iload_n 1, 1, (0, 0, [], 0, 0)), (75, .iload_n 2, 1, (0, 0, [], 0, 0)), (76, .iload 4, 2, (0, 0, [], 0, 0)), (78, .iload 6, 2, (0, 0, [], 0, 0)), (80, .invokevirtual 155, 3, (92, 4, [(9, 0)], 4, 854)), (83, .goto 13, 3, (96, 0, [], 0, 0)), (86, .aload_n 0, 1, (0, 0, [], 0, 0)), (87, .iload_n 1, 1, (0, 0, [], 0, 0)), (88, .iload_n 2, 1, (0, 0, [], 0, 0)), (89, .iload 4, 2, (0, 0, [], 0, 0)), (91, .iload 6, 2, (0, 0, [], 0, 0)), (93, .invokevirtual 159, 3, (93, 4, [(9, 0)], 4, 858)), (96, .iadd, 1, (0, 0, [], 0, 0)), (97, .istore_n 3, 1, (0, 0, [], 0, 0)), (98, .iinc 4 1, 3, (0, 0, [], 0, 0)), (101, .iinc 6 1, 3, (0, 0, [], 0, 0)), (104, .goto (-90), 3, (14, 0, [], 0, 0)), (107, .aload_n 0, 1, (0, 0, [], 0, 0)), (108, .iconst 3, 1, (0, 0, [], 0, 0)), (109, .iload_n 1, 1, (0, 0, [], 0, 0)), (110, .iload_n 2, 1, (0, 0, [], 0, 0)), (111, .bipush (-6), 2, (0, 0, [], 0, 0)), (113, .bipush (-6), 2, (0, 0, [], 0, 0)), (115, .invokevirtual 132, 3, (78, 5, [(9, 0)], 4, 822)), (118, .ifCond .ne 6, 3, (124, 0, [], 0, 0)), (121, .bipush (-5), 2, (0, 0, [], 0, 0)), (123, .ireturn, 1, (0, 0, [], 0, 0)), (124, .aload_n 0, 1, (0, 0, [], 0, 0)), (125, .dup, 1, (0, 0, [], 0, 0)), (126, .getfield 162, 3, (0, 0, [(9, 33)], 0, 717)), (129, .iconst 1, 1, (0, 0, [], 0, 0)), (130, .iadd, 1, (0, 0, [], 0, 0)), (131, .putfield 162, 3, (0, 0, [(9, 33)], 0, 717)), (134, .iload_n 3, 1, (0, 0, [], 0, 0)), (135, .ireturn, 1, (0, 0, [], 0, 0))]
def p_tb92 : am_T := [(0, .iload_n 1, 1, (0, 0, [], 0, 0)), (1, .bipush 100, 2, (0, 0, [], 0, 0)), (3, .imul, 1, (0, 0, [], 0, 0)), (4, .bipush 20, 2, (0, 0, [], 0, 0)), (6, .imul, 1, (0, 0, [], 0, 0)), (7, .istore 5, 2, (0, 0, [], 0, 0)), (9, .iload 5, 2, (0, 0, [], 0, 0)), (11, .istore 6, 2, (0, 0, [], 0, 0)), (13, .iload 6, 2, (0, 0, [], 0, 0)), (15, .iload 5, 2, (0, 0, [], 0, 0)), (17, .aload_n 0, 1, (0, 0, [], 0, 0)), (18, .getfield 46, 3, (0, 0, [(9, 14)], 0, 698)), (21, .iload_n 1, 1, (0, 0, [], 0, 0)), (22, .iaload, 1, (0, 0, [], 0, 0)), (23, .iadd, 1, (0, 0, [], 0, 0)), (24, .if_icmp .ge 33, 3, (57, 0, [], 0, 0)), (27, .aload_n 0, 1, (0, 0, [], 0, 0)), (28, .getfield 55, 3, (0, 0, [(9, 17)], 0, 701)), (31, .iload 6, 2, (0, 0, [], 0, 0)), (33, .iaload, 1, (0, 0, [], 0, 0)), (34, .iload_n 2, 1, (0, 0, [], 0, 0)), (35, .if_icmp .ne 16, 3, (51, 0, [], 0, 0)), (38, .aload_n 0, 1, (0, 0, [], 0, 0)), (39, .getfield 58, 3, (0, 0, [(9, 18)], 0, 702)), (42, .iload 6, 2, (0, 0, [], 0, 0)), (44, .iaload, 1, (0, 0, [], 0, 0)), (45, .iload_n 3, 1, (0, 0, [], 0, 0)), (46, .if_icmp .ne 5, 3, (51, 0, [], 0, 0)), (49, .iconst 0, 1, (0, 0, [], 0, 0)), (50, .ireturn, 1, (0, 0, [], 0, 0)), (51, .iinc 6 1, 3, (0, 0, [], 0, 0)), (54, .goto (-41), 3, (13, 0, [], 0, 0)), (57, .iload 5, 2, (0, 0, [], 0, 0)), (59, .aload_n 0, 1, (0, 0, [], 0, 0)), (60, .getfield 46, 3, (0, 0, [(9, 14)], 0, 698)), (63, .iload_n 1, 1, (0, 0, [], 0, 0)), (64, .iaload, 1, (0, 0, [], 0, 0)), (65, .iadd, 1, (0, 0, [], 0, 0)), (66, .istore 6, 2, (0, 0, [], 0, 0)), (68, .aload_n 0, 1, (0, 0, [], 0, 0)), (69, .getfield 49, 3, (0, 0, [(9, 15)], 0, 699)), (72, .iload 6, 2, (0, 0, [], 0, 0)), (74, .aload_n 0, 1, (0, 0, [], 0, 0)), (75, .getfield 40, 3, (0, 0, [(9, 12)], 0, 696)), (78, .iload 4, 2, (0, 0, [], 0, 0)), (80, .iaload, 1, (0, 0, [], 0, 0)), (81, .iastore, 1, (0, 0, [], 0, 0)), (82, .aload_n 0, 1, (0, 0, [], 0, 0)), (83, .getfield 52, 3, (0, 0, [(9, 16)], 0, 700)), (86, .iload 6, 2, (0, 0, [], 0, 0)), (88, .aload_n 0, 1, (0, 0, [], 0, 0)), (89, .getfield 43, 3, (0, 0, [(9, 13)], 0, 697)), (92, .iload 4, 2, (0, 0, [], 0, 0)), (94, .iaload, 1, (0, 0, [], 0, 0)), (95, .iastore, 1, (0, 0, [], 0, 0)), (96, .aload_n 0, 1, (0, 0, [], 0, 0)), (97, .getfield 55, 3, (0, 0, [(9, 17)], 0, 701)), (100, .iload 6, 2, (0, 0, [], 0, 0)), (102, .iload_n 2, 1, (0, 0, [], 0, 0)), (103, .iastore, 1, (0, 0, [], 0, 0)), (104, .aload_n 0, 1, (0, 0, [], 0, 0)), (105, .getfield 58, 3, (0, 0, [(9, 18)], 0, 702)), (108, .iload 6, 2, (0, 0, [], 0, 0)), (110, .iload_n 3, 1, (0, 0, [], 0, 0)), (111, .iastore, 1, (0, 0, [], 0, 0)), (112, .aload_n 0, 1, (0, 0, [], 0, 0)), (113, .getfield 46, 3, (0, 0, [(9, 14)], 0, 698)), (116, .iload_n 1, 1, (0, 0, [], 0, 0)), (117, .dup2, 1, (0, 0, [], 0, 0)), (118, .iaload, 1, (0, 0, [], 0, 0)), (119, .iconst 1, 1, (0, 0, [], 0, 0)), (120, .iadd, 1, (0, 0, [], 0, 0)), (121, .iastore, 1, (0, 0, [], 0, 0)), (122, .iconst 1, 1, (0, 0, [], 0, 0)), (123, .ireturn, 1, (0, 0, [], 0, 0))]
def p_tb93 : am_T := [(0, .bipush 10, 2, (0, 0, [], 0, 0)), (2, .iload_n 1, 1, (0, 0, [], 0, 0)), (3, .imul, 1, (0, 0, [], 0, 0)), (4, .aload_n 0, 1, (0, 0, [], 0, 0)), (5, .getfield 40, 3, (0, 0, [(9, 12)], 0, 696)), (8, .iload 4, 2, (0, 0, [], 0, 0)), (10, .iaload, 1, (0, 0, [], 0, 0)), (11, .iadd, 1, (0, 0, [], 0, 0)), (12, .istore 5, 2, (0, 0, [], 0, 0)), (14, .aload_n 0, 1, (0, 0, [], 0, 0)), (15, .getfield 61, 3, (0, 0, [(9, 19)], 0, 703)), (18, .iload 5, 2, (0, 0, [], 0, 0)), (20, .iaload, 1, (0, 0, [], 0, 0)), (21, .bipush (-6), 2, (0, 0, [], 0, 0)), (23, .if_icmp .eq 38, 3, (61, 0, [], 0, 0)), (26, .aload_n 0, 1, (0, 0, [], 0, 0)), (27, .getfield 61, 3, (0, 0, [(9, 19)], 0, 703)), (30, .iload 5, 2, (0, 0, [], 0, 0)), (32, .iaload, 1, (0, 0, [], 0, 0)), (33, .iload_n 2, 1, (0, 0, [], 0, 0)), (34, .if_icmp .gt 25, 3, (59, 0, [], 0, 0)), (37, .aload_n 0, 1, (0, 0, [], 0, 0)), (38, .getfield 61, 3, (0, 0, [(9, 19)], 0, 703)), (41, .iload 5, 2, (0, 0, [], 0, 0)), (43, .iaload, 1, (0, 0, [], 0, 0)), (44, .iload_n 2, 1, (0, 0, [], 0, 0)), (45, .if_icmp .ne 16, 3, (61, 0, [], 0, 0)), (48, .aload_n 0, 1, (0, 0, [], 0, 0)), (49, .getfield 64, 3, (0, 0, [(9, 20)], 0, 704)), (52, .iload 5, 2, (0, 0, [], 0, 0)), (54, .iaload, 1, (0, 0, [], 0, 0)), (55, .iload_n 3, 1, (0, 0, [], 0, 0)), (56, .if_icmp .lt 5, 3, (61, 0, [], 0, 0)), (59, .iconst 0, 1, (0, 0, [], 0, 0)), (60, .ireturn, 1, (0, 0, [], 0, 0)), (61, .aload_n 0, 1, (0, 0, [], 0, 0)), (62, .getfield 61, 3, (0, 0, [(9, 19)], 0, 703)), (65, .iload 5, 2, (0, 0, [], 0, 0)), (67, .iload_n 2, 1, (0, 0, [], 0, 0)), (68, .iastore, 1, (0, 0, [], 0, 0)), (69, .aload_n 0, 1, (0, 0, [], 0, 0)), (70, .getfield 64, 3, (0, 0, [(9, 20)], 0, 704)), (73, .iload 5, 2, (0, 0, [], 0, 0)), (75, .iload_n 3, 1, (0, 0, [], 0, 0)), (76, .iastore, 1, (0, 0, [], 0, 0)), (77, .aload_n 0, 1, (0, 0, [], 0, 0)), (78, .getfield 67, 3, (0, 0, [(9, 21)], 0, 705)), (81, .iload 5, 2, (0, 0, [], 0, 0)), (83, .aload_n 0, 1, (0, 0, [], 0, 0)), (84, .getfield 43, 3, (0, 0, [(9, 13)], 0, 697)), (87, .iload 4, 2, (0, 0, [], 0, 0)), (89, .iaload, 1, (0, 0, [], 0, 0)), (90, .iastore, 1, (0, 0, [], 0, 0)), (91, .iconst 1, 1, (0, 0, [], 0, 0)), (92, .ireturn, 1, (0, 0, [], 0, 0))]
def p_tb94 : am_T := [(0, .iconst 0, 1, (0, 0, [], 0, 0)), (1, .istore_n 3, 1, (0, 0, [], 0, 0)), (2, .iconst 0, 1, (0, 0, [], 0, 0)), (3, .istore 4, 2, (0, 0, [], 0, 0)), (5, .iload 4, 2, (0, 0, [], 0, 0)), (7, .aload_n 0, 1, (0, 0, [], 0, 0)), (8, .getfield 22, 3, (0, 0, [(9, 5)], 0, 689)), (11, .iload_n 1, 1, (0, 0, [], 0, 0)), (12, .iaload, 1, (0, 0, [], 0, 0)), (13, .if_icmp .ge 78, 3, (91, 0, [], 0, 0)), (16, .aload_n 0, 1, (0, 0, [], 0, 0)), (17, .iload_n 1, 1, (0, 0, [], 0, 0)), (18, .iload 4, 2, (0, 0, [], 0, 0)), (20, .invokevirtual 146, 3, (80, 2, [(9, 0)], 4, 842)), (23, .istore 5, 2, (0, 0, [], 0, 0)), (25, .iload 5, 2, (0, 0, [], 0, 0)), (27, .ifCond .eq 58, 3, (85, 0, [], 0, 0)), (30, .iload 5, 2, (0, 0, [], 0, 0)), (32, .iconst 3, 1, (0, 0, [], 0, 0)), (33, .if_icmp .eq 52, 3, (85, 0, [], 0, 0)), (36, .aload_n 0, 1, (0, 0, [], 0, 0)), (37, .iload_n 1, 1, (0, 0, [], 0, 0)), (38, .iload 4, 2, (0, 0, [], 0, 0)), (40, .invokevirtual 149, 3, (81, 2, [(9, 0)], 4, 846)), (43, .iload_n 2, 1, (0, 0, [], 0, 0)), (44, .if_icmp .lt 41, 3, (85, 0, [], 0, 0)), (47, .aload_n 0, 1, (0, 0, [], 0, 0)), (48, .iconst 4, 1, (0, 0, [], 0, 0)), (49, .iload_n 1, 1, (0, 0, [], 0, 0)), (50, .iload 4, 2, (0, 0, [], 0, 0)), (52, .bipush (-6), 2, (0, 0, [], 0, 0)), (54, .bipush (-6), 2, (0, 0, [], 0, 0)), (56, .invokevirtual 132, 3, (78, 5, [(9, 0)], 4, 822)), (59, .ifCond .ne 6, 3, (65, 0, [], 0, 0)), (62, .bipush (-5), 2, (0, 0, [], 0, 0)), (64, .ireturn, 1, (0, 0, [], 0, 0)), (65, .aload_n 0, 1, (0, 0, [], 0, 0)), (66, .dup, 1, (0, 0, [], 0, 0)), (67, .getfield 162, 3, (0, 0, [(9, 33)], 0, 717)), (70, .iconst 1, 1, (0, 0, [], 0, 0)), (71, .iadd, 1, (0, 0, [], 0, 0)), (72, .putfield 162, 3, (0, 0, [(9, 33)], 0, 717)), (75, .iload_n 3, 1, (0, 0, [], 0, 0)), (76, .aload_n 0, 1, (0, 0, [], 0, 0)), (77, .iload_n 1, 1, (0, 0, [], 0, 0)), (78, .iload 4, 2, (0, 0, [], 0, 0)), (80, .invokevirtual 165, 3, (79, 2, [(9, 0)], 4, 874)), (83, .iadd, 1, (0, 0, [], 0, 0)), (84, .istore_n 3, 1, (0, 0, [], 0, 0)), (85, .iinc 4 1, 3, (0, 0, [], 0, 0)), (88, .goto (-83), 3, (5, 0, [], 0, 0)), (91, .iload_n 3, 1, (0, 0, [], 0, 0)), (92, .ireturn, 1, (0, 0, [], 0, 0))]
def p_tb95 : am_T := [(0, .iload_n 1, 1, (0, 0, [], 0, 0)), (1, .iconst 0, 1, (0, 0, [], 0, 0)), (2, .ldc 131, 2, (0, 0, [], 1000000, 0)), (4, .invokestatic 89, 3, (74, 3, [], 0, 791)), (7, .ifCond .ne 20, 3, (27, 0, [], 0, 0)), (10, .aload_n 0, 1, (0, 0, [], 0, 0)), (11, .getfield 76, 3, (0, 0, [(9, 25)], 0, 709)), (14, .bipush (-6), 2, (0, 0, [], 0, 0)), (16, .if_icmp .eq 14, 3, (30, 0, [], 0, 0)), (19, .iload_n 1, 1, (0, 0, [], 0, 0)), (20, .aload_n 0, 1, (0, 0, [], 0, 0)), (21, .getfield 76, 3, (0, 0, [(9, 25)], 0, 709)), (24, .if_icmp .gt 6, 3, (30, 0, [], 0, 0)), (27, .bipush (-2), 2, (0, 0, [], 0, 0)), (29, .ireturn, 1, (0, 0, [], 0, 0)), (30, .aload_n 0, 1, (0, 0, [], 0, 0)), (31, .getfield 93, 3, (0, 0, [(9, 30)], 0, 714)), (34, .ifCond .eq 6, 3, (40, 0, [], 0, 0)), (37, .bipush (-5), 2, (0, 0, [], 0, 0)), (39, .ireturn, 1, (0, 0, [], 0, 0)), (40, .iconst 0, 1, (0, 0, [], 0, 0)), (41, .istore_n 2, 1, (0, 0, [], 0, 0)), (42, .iconst 0, 1, (0, 0, [], 0, 0)), (43, .istore_n 3, 1, (0, 0, [], 0, 0)), (44, .iload_n 3, 1, (0, 0, [], 0, 0)), (45, .aload_n 0, 1, (0, 0, [], 0, 0)), (46, .getfield 86, 3, (0, 0, [(9, 0)], 0, 684)), (49, .if_icmp .ge 44, 3, (93, 0, [], 0, 0)), (52, .aload_n 0, 1, (0, 0, [], 0, 0)), (53, .iload_n 3, 1, (0, 0, [], 0, 0)), (54, .iload_n 1, 1, (0, 0, [], 0, 0)), (55, .invokevirtual 168, 3, (94, 2, [(9, 0)], 4, 870)), (58, .istore 4, 2, (0, 0, [], 0, 0)), (60, .iload 4, 2, (0, 0, [], 0, 0)), (62, .ifCond .ge 6, 3, (68, 0, [], 0, 0)), (65, .bipush (-5), 2, (0, 0, [], 0, 0)), (67, .ireturn, 1, (0, 0, [], 0, 0)), (68, .iload_n 2, 1, (0, 0, [], 0, 0)), (69, .iload 4, 2, (0, 0, [], 0, 0)), (71, .aload_n 0, 1, (0, 0, [], 0, 0)), (72, .getfield 13, 3, (0, 0, [(9, 2)], 0, 686)), (75, .iload_n 3, 1, (0, 0, [], 0, 0)), (76, .iaload, 1, (0, 0, [], 0, 0)), (77, .iadd, 1, (0, 0, [], 0, 0)), (78, .iadd, 1, (0, 0, [], 0, 0)), (79, .istore_n 2, 1, (0, 0, [], 0, 0)), (80, .aload_n 0, 1, (0, 0, [], 0, 0)), (81, .getfield 13, 3, (0, 0, [(9, 2)], 0, 686)), (84, .iload_n 3, 1, (0, 0, [], 0, 0)), (85, .iconst 0, 1, (0, 0, [], 0, 0)), (86, .iastore, 1, (0, 0, [], 0, 0)), (87, .iinc 3 1, 3, (0, 0, [], 0, 0)), (90, .goto (-46), 3, (44, 0, [], 0, 0)), (93, .aload_n 0, 1, (0, 0, [], 0, 0)), (94, .getfield 120, 3, (0, 0, [(9, 27)], 0, 711)), (97, .ifCond .le 31, 3, (128, 0, [], 0, 0)), (100, .aload_n 0, 1, (0, 0, [], 0, 0)), (101, .getfield 80, 3, (0, 0, [(9, 26)], 0, 710)), (104, .aload_n 0, 1, (0, 0, [], 0, 0)), (105, .getfield 120, 3, (0, 0, [(9, 27)], 0, 711)), (108, .iconst 1, 1, (0, 0, [], 0, 0)), (109, .isub, 1, (0, 0, [], 0, 0)), (110, .iaload, 1, (0, 0, [], 0, 0)), (111, .iload_n 1, 1, (0, 0, [], 0, 0)), (112, .if_icmp .lt 16, 3, (128, 0, [], 0, 0)), (115, .aload_n 0, 1, (0, 0, [], 0, 0)), (116, .dup, 1, (0, 0, [], 0, 0)), (117, .getfield 120, 3, (0, 0, [(9, 27)], 0, 711)), (120, .iconst 1, 1, (0, 0, [], 0, 0)), (121, .isub, 1, (0, 0, [], 0, 0)), (122, .putfield 120, 3, (0, 0, [(9, 27)], 0, 711)), (125, .goto (-32), 3, (93, 0, [], 0, 0)), (128, .iload_n 2, 1, (0, 0, [], 0, 0)), (129, .ireturn, 1, (0, 0, [], 0, 0))]
def p_tb96 : am_T := [(0, .aload_n 0, 1, (0, 0, [], 0, 0)), (1, .iload_n 1, 1, (0, 0, [], 0, 0)), (2, .invokevirtual 136, 3, (85, 1, [(9, 0)], 4, 806)), (5, .istore_n 2, 1, (0, 0, [], 0, 0)), (6, .iload_n 2, 1, (0, 0, [], 0, 0)), (7, .ifCond .eq 5, 3, (12, 0, [], 0, 0)), (10, .iload_n 2, 1, (0, 0, [], 0, 0)), (11, .ireturn, 1, (0, 0, [], 0, 0)), (12, .aload_n 0, 1, (0, 0, [], 0, 0)), (13, .iload_n 1, 1, (0, 0, [], 0, 0)), (14, .invokevirtual 140, 3, (86, 1, [(9, 0)], 4, 818)), (17, .ifCond .lt 18, 3, (35, 0, [], 0, 0)), (20, .aload_n 0, 1, (0, 0, [], 0, 0)), (21, .iconst 5, 1, (0, 0, [], 0, 0)), (22, .bipush (-6), 2, (0, 0, [], 0, 0)), (24, .bipush (-6), 2, (0, 0, [], 0, 0)), (26, .iload_n 1, 1, (0, 0, [], 0, 0)), (27, .bipush (-6), 2, (0, 0, [], 0, 0)), (29, .invokevirtual 132, 3, (78, 5, [(9, 0)], 4, 822)), (32, .ifCond .ne 6, 3, (38, 0, [], 0, 0)), (35, .bipush (-5), 2, (0, 0, [], 0, 0)), (37, .ireturn, 1, (0, 0, [], 0, 0)), (38, .aload_n 0, 1, (0, 0, [], 0, 0)), (39, .iload_n 1, 1, (0, 0, [], 0, 0)), (40, .putfield 76, 3, (0, 0, [(9, 25)], 0, 709)), (43, .aload_n 0, 1, (0, 0, [], 0, 0)), (44, .iconst 1, 1, (0, 0, [], 0, 0)), (45, .putfield 117, 3, (0, 0, [(9, 29)], 0, 713)), (48, .aload_n 0, 1, (0, 0, [], 0, 0)), (49, .invokevirtual 143, 3, (90, 0, [(9, 0)], 4, 838)), (52, .ireturn, 1, (0, 0, [], 0, 0))]
def p_tb97 : am_T := [(0, .aload_n 0, 1, (0, 0, [], 0, 0)), (1, .iload_n 1, 1, (0, 0, [], 0, 0)), (2, .invokevirtual 113, 3, (75, 1, [(9, 0)], 4, 798)), (5, .ifCond .eq 5, 3, (10, 0, [], 0, 0)), (8, .iconst (-1), 1, (0, 0, [], 0, 0)), (9, .ireturn, 1, (0, 0, [], 0, 0)), (10, .iload_n 2, 1, (0, 0, [], 0, 0)), (11, .iconst 0, 1, (0, 0, [], 0, 0)), (12, .bipush 100, 2, (0, 0, [], 0, 0)), (14, .invokestatic 89, 3, (74, 3, [], 0, 791)), (17, .ifCond .eq 6, 3, (23, 0, [], 0, 0)), (20, .bipush (-2), 2, (0, 0, [], 0, 0)), (22, .ireturn, 1, (0, 0, [], 0, 0)), (23, .aload_n 0, 1, (0, 0, [], 0, 0)), (24, .getfield 28, 3, (0, 0, [(9, 7)], 0, 691)), (27, .iload_n 1, 1, (0, 0, [], 0, 0)), (28, .iaload, 1, (0, 0, [], 0, 0)), (29, .istore_n 3, 1, (0, 0, [], 0, 0)), (30, .aload_n 0, 1, (0, 0, [], 0, 0)), (31, .getfield 28, 3, (0, 0, [(9, 7)], 0, 691)), (34, .iload_n 1, 1, (0, 0, [], 0, 0)), (35, .iload_n 2, 1, (0, 0, [], 0, 0)), (36, .iastore, 1, (0, 0, [], 0, 0)), (37, .iload_n 3, 1, (0, 0, [], 0, 0)), (38, .ireturn, 1, (0, 0, [], 0, 0))]
def p_tb98 : am_T := [(0, .iload_n 1, 1, (0, 0, [], 0, 0)), (1, .bipush (-6), 2, (0, 0, [], 0, 0)), (3, .if_icmp .eq 17, 3, (20, 0, [], 0, 0)), (6, .iload_n 1, 1, (0, 0, [], 0, 0)), (7, .iconst 1, 1, (0, 0, [], 0, 0)), (8, .sipush 5000, 3, (0, 0, [], 0, 0)), (11, .invokestatic 89, 3, (74, 3, [], 0, 791)), (14, .ifCond .eq 6, 3, (20, 0, [], 0, 0)), (17, .bipush (-2), 2, (0, 0, [], 0, 0)), (19, .ireturn, 1, (0, 0, [], 0, 0)), (20, .aload_n 0, 1, (0, 0, [], 0, 0)), (21, .getfield 93, 3, (0, 0, [(9, 30)], 0, 714)), (24, .ifCond .eq 6, 3, (30, 0, [], 0, 0)), (27, .bipush (-5), 2, (0, 0, [], 0, 0)), (29, .ireturn, 1, (0, 0, [], 0, 0)), (30, .aload_n 0, 1, (0, 0, [], 0, 0)), (31, .iload_n 1, 1, (0, 0, [], 0, 0)), (32, .putfield 83, 3, (0, 0, [(9, 31)], 0, 715)), (35, .iconst 1, 1, (0, 0, [], 0, 0)), (36, .ireturn, 1, (0, 0, [], 0, 0))]
def p_tb99 : am_T := [(0, .aload_n 0, 1, (0, 0, [], 0, 0)), (1, .bipush (-6), 2, (0, 0, [], 0, 0)), (3, .putfield 83, 3, (0, 0, [(9, 31)], 0, 715)), (6, .aload_n 0, 1, (0, 0, [], 0, 0)), (7, .iconst 0, 1, (0, 0, [], 0, 0)), (8, .putfield 93, 3, (0, 0, [(9, 30)], 0, 714)), (11, .aload_n 0, 1, (0, 0, [], 0, 0)), (12, .invokevirtual 97, 3, (77, 0, [(9, 0)], 4, 830)), (15, .aload_n 0, 1, (0, 0, [], 0, 0)), (16, .bipush (-6), 2, (0, 0, [], 0, 0)), (18, .putfield 76, 3, (0, 0, [(9, 25)], 0, 709)), (21, .aload_n 0, 1, (0, 0, [], 0, 0)), (22, .iconst 0, 1, (0, 0, [], 0, 0)), (23, .putfield 117, 3, (0, 0, [(9, 29)], 0, 713)), (26, .iconst 0, 1, (0, 0, [], 0, 0)), (27, .istore_n 1, 1, (0, 0, [], 0, 0)), (28, .iload_n 1, 1, (0, 0, [], 0, 0)), (29, .aload_n 0, 1, (0, 0, [], 0, 0)), (30, .getfield 86, 3, (0, 0, [(9, 0)], 0, 684)), (33, .if_icmp .ge 16, 3, (49, 0, [], 0, 0)), (36, .aload_n 0, 1, (0, 0, [], 0, 0)), (37, .getfield 22, 3, (0, 0, [(9, 5)], 0, 689)), (40, .iload_n 1, 1, (0, 0, [], 0, 0)), (41, .iconst 0, 1, (0, 0, [], 0, 0)), (42, .iastore, 1, (0, 0, [], 0, 0)), (43, .iinc 1 1, 3, (0, 0, [], 0, 0)), (46, .goto (-18), 3, (28, 0, [], 0, 0)), (49, .iconst 0, 1, (0, 0, [], 0, 0)), (50, .istore_n 1, 1, (0, 0, [], 0, 0)), (51, .iload_n 1, 1, (0, 0, [], 0, 0)), (52, .aload_n 0, 1, (0, 0, [], 0, 0)), (53, .getfield 107, 3, (0, 0, [(9, 8)], 0, 692)), (56, .if_icmp .ge 106, 3, (162, 0, [], 0, 0)), (59, .aload_n 0, 1, (0, 0, [], 0, 0)), (60, .getfield 31, 3, (0, 0, [(9, 9)], 0, 693)), (63, .iload_n 1, 1, (0, 0, [], 0, 0)), (64, .iaload, 1, (0, 0, [], 0, 0)), (65, .iconst 2, 1, (0, 0, [], 0, 0)), (66, .if_icmp .eq 13, 3, (79, 0, [], 0, 0)), (69, .aload_n 0, 1, (0, 0, [], 0, 0)), (70, .getfield 31, 3, (0, 0, [(9, 9)], 0, 693)), (73, .iload_n 1, 1, (0, 0, [], 0, 0)), (74, .iaload, 1, (0, 0, [], 0, 0)), (75, .iconst 5, 1, (0, 0, [], 0, 0)), (76, .if_icmp .ne 47, 3, (123, 0, [], 0, 0)), (79, .aload_n 0, 1, (0, 0, [], 0, 0)), (80, .aload_n 0, 1, (0, 0, [], 0, 0)), (81, .getfield 76, 3, (0, 0, [(9, 25)], 0, 709)), (84, .aload_n 0, 1, (0, 0, [], 0, 0)), (85, .getfield 40, 3, (0, 0, [(9, 12)], 0, 696)), (88, .iload_n 1, 1, (0, 0, [], 0, 0)), (89, .iaload, 1, (0, 0, [], 0, 0)), (90, .invokestatic 123, 3, (72, 2, [], 0, 814)), (93, .putfield 76, 3, (0, 0, [(9, 25)], 0, 709)), (96, .aload_n 0, 1, (0, 0, [], 0, 0)), (97, .dup, 1, (0, 0, [], 0, 0)), (98, .getfield 117, 3, (0, 0, [(9, 29)], 0, 713)), (101, .aload_n 0, 1, (0, 0, [], 0, 0)), (102, .getfield 31, 3, (0, 0, [(9, 9)], 0, 693)), (105, .iload_n 1, 1, (0, 0, [], 0, 0)), (106, .iaload, 1, (0, 0, [], 0, 0)), (107, .iconst 5, 1, (0, 0, [], 0, 0)), (108, .if_icmp .ne 7, 3, (115, 0, [], 0, 0)), (111, .iconst 1, 1, (0, 0, [], 0, 0)), (112, .goto 4, 3, (116, 0, [], 0, 0)), (115, .iconst 0, 1, (0, 0, [], 0, 0)), (116, .ior, 1, (0, 0, [], 0, 0)), (117, .putfield 117, 3, (0, 0, [(9, 29)], 0, 713)), (120, .goto 36, 3, (156, 0, [], 0, 0)), (123, .aload_n 0, 1, (0, 0, [], 0, 0)), (124, .getfield 22, 3, (0, 0, [(9, 5)], 0, 689)), (127, .aload_n 0, 1, (0, 0, [], 0, 0)), (128, .getfield 34, 3, (0, 0, [(9, 10)], 0, 694)), (131, .iload_n 1, 1, (0, 0, [], 0, 0)), (132, .iaload, 1, (0, 0, [], 0, 0)), (133, .aload_n 0, 1, (0, 0, [], 0, 0)), (134, .getfield 22, 3, (0, 0, [(9, 5)], 0, 689)), (137, .aload_n 0, 1, (0, 0, [], 0, 0)), (138, .getfield 34, 3, (0, 0, [(9, 10)], 0, 694)), (141, .iload_n 1, 1, (0, 0, [], 0, 0)), (142, .iaload, 1, (0, 0, [], 0, 0)), (143, .iaload, 1, (0, 0, [], 0, 0)), (144, .aload_n 0, 1, (0, 0, [], 0, 0)), (145, .getfield 37, 3, (0, 0, [(9, 11)], 0, 695)), (148, .iload_n 1, 1, (0, 0, [], 0, 0)), (149, .iaload, 1, (0, 0, [], 0, 0)), (150, .iconst 1, 1, (0, 0, [], 0, 0)), (151, .iadd, 1, (0, 0, [], 0, 0)), (152, .invokestatic 123, 3, (72, 2, [], 0, 814)), (155, .iastore, 1, (0, 0, [], 0, 0)), (156, .iinc 1 1, 3, (0, 0, [], 0, 0)), (159, .goto (-108), 3, (51, 0, [], 0, 0)), (162, .aload_n 0, 1, (0, 0, [], 0, 0)), (163, .getfield 120, 3, (0, 0, [(9, 27)], 0, 711)), (166, .ifCond .le 43, 3, (209, 0, [], 0, 0)), (169, .aload_n 0, 1, (0, 0, [], 0, 0)), (170, .getfield 76, 3, (0, 0, [(9, 25)], 0, 709)), (173, .bipush (-6), 2, (0, 0, [], 0, 0)), (175, .if_icmp .eq 21, 3, (196, 0, [], 0, 0)), (178, .aload_n 0, 1, (0, 0, [], 0, 0)), (179, .getfield 80, 3, (0, 0, [(9, 26)], 0, 710)), (182, .aload_n 0, 1, (0, 0, [], 0, 0)), (183, .getfield 120, 3, (0, 0, [(9, 27)], 0, 711)), (186, .iconst 1, 1, (0, 0, [], 0, 0)), (187, .isub, 1, (0, 0, [], 0, 0)), (188, .iaload, 1, (0, 0, [], 0, 0)), (189, .aload_n 0, 1, (0, 0, [], 0, 0)), (190, .getfield 76, 3, (0, 0, [(9, 25)], 0, 709)), (193, .if_icmp .le 16, 3, (209, 0, [], 0, 0)), (196, .aload_n 0, 1, (0, 0, [], 0, 0)), (197, .dup, 1, (0, 0, [], 0, 0)), (198, .getfield 120, 3, (0, 0, [(9, 27)], 0, 711)), (201, .iconst 1, 1, (0, 0, [], 0, 0)), (202, .isub, 1, (0, 0, [], 0, 0)), (203, .putfield 120, 3, (0, 0, [(9, 27)], 0, 711)), (206, .goto (-44), 3, (162, 0, [], 0, 0)), (209, .aload_n 0, 1, (0, 0, [], 0, 0)), (210, .iconst 0, 1, (0, 0, [], 0, 0)), (211, .putfield 162, 3, (0, 0, [(9, 33)], 0, 717)), (214, .iconst 0, 1, (0, 0, [], 0, 0)), (215, .istore_n 1, 1, (0, 0, [], 0, 0)), (216, .iload_n 1, 1, (0, 0, [], 0, 0)), (217, .aload_n 0, 1, (0, 0, [], 0, 0)), (218, .getfield 86, 3, (0, 0, [(9, 0)], 0, 684)), (221, .if_icmp .ge 34, 3, (255, 0, [], 0, 0)), (224, .aload_n 0, 1, (0, 0, [], 0, 0)), (225, .iload_n 1, 1, (0, 0, [], 0, 0)), (226, .aload_n 0, 1, (0, 0, [], 0, 0)), (227, .getfield 76, 3, (0, 0, [(9, 25)], 0, 709)), (230, .bipush (-6), 2, (0, 0, [], 0, 0)), (232, .if_icmp .ne 7, 3, (239, 0, [], 0, 0)), (235, .iconst 0, 1, (0, 0, [], 0, 0)), (236, .goto 9, 3, (245, 0, [], 0, 0)), (239, .aload_n 0, 1, (0, 0, [], 0, 0)), (240, .getfield 76, 3, (0, 0, [(9, 25)], 0, 709)), (243, .iconst 1, 1, (0, 0, [], 0, 0)), (244, .iadd, 1, (0, 0, [], 0, 0)), (245, .invokevirtual 168, 3, (94, 2, [(9, 0)], 4, 870)), (248, .istore_n 2, 1, (0, 0, [], 0, 0)), (249, .iinc 1 1, 3, (0, 0, [], 0, 0)), (252, .goto (-36), 3, (216, 0, [], 0, 0)), (255, .aload_n 0, 1, (0, 0, [], 0, 0)), (256, .invokevirtual 143, 3, (90, 0, [(9, 0)], 4, 838)), (259, .istore_n 1, 1, (0, 0, [], 0, 0)), (260, .aload_n 0, 1, (0, 0, [], 0, 0)), (261, .getfield 162, 3, (0, 0, [(9, 33)], 0, 717)), (264, .ireturn, 1, (0, 0, [], 0, 0))]
def p_tb100 : am_T := [(0, .aload_n 0, 1, (0, 0, [], 0, 0)), (1, .iload_n 1, 1, (0, 0, [], 0, 0)), (2, .invokevirtual 113, 3, (75, 1, [(9, 0)], 4, 798)), (5, .ifCond .eq 5, 3, (10, 0, [], 0, 0)), (8, .iconst (-1), 1, (0, 0, [], 0, 0)), (9, .ireturn, 1, (0, 0, [], 0, 0)), (10, .iload_n 2, 1, (0, 0, [], 0, 0)), (11, .tableswitch 186 0 6 #[41, 48, 55, 62, 125, 132, 139], 41, (197, 0, [(0, 52), (1, 59), (2, 66), (3, 73), (4, 136), (5, 143), (6, 150)], 0, 0)), (52, .aload_n 0, 1, (0, 0, [], 0, 0)), (53, .getfield 7, 3, (0, 0, [(9, 1)], 0, 685)), (56, .iload_n 1, 1, (0, 0, [], 0, 0)), (57, .iaload, 1, (0, 0, [], 0, 0)), (58, .ireturn, 1, (0, 0, [], 0, 0)), (59, .aload_n 0, 1, (0, 0, [], 0, 0)), (60, .getfield 13, 3, (0, 0, [(9, 2)], 0, 686)), (63, .iload_n 1, 1, (0, 0, [], 0, 0)), (64, .iaload, 1, (0, 0, [], 0, 0)), (65, .ireturn, 1, (0, 0, [], 0, 0)), (66, .aload_n 0, 1, (0, 0, [], 0, 0)), (67, .getfield 22, 3, (0, 0, [(9, 5)], 0, 689)), (70, .iload_n 1, 1, (0, 0, [], 0, 0)), (71, .iaload, 1, (0, 0, [], 0, 0)), (72, .ireturn, 1, (0, 0, [], 0, 0)), (73, .iconst 0, 1, (0, 0, [], 0, 0)), (74, .istore_n 3, 1, (0, 0, [], 0, 0)), (75, .iconst 0, 1, (0, 0, [], 0, 0)), (76, .istore 4, 2, (0, 0, [], 0, 0)), (78, .iload 4, 2, (0, 0, [], 0, 0)), (80, .bipush 10, 2, (0, 0, [], 0, 0)), (82, .if_icmp .ge 34, 3, (116, 0, [], 0, 0)), (85, .iload_n 3, 1, (0, 0, [], 0, 0)), (86, .aload_n 0, 1, (0, 0, [], 0, 0)), (87, .getfield 61, 3, (0, 0, [(9, 19)], 0, 703)), (90, .bipush 10, 2, (0, 0, [], 0, 0)), (92, .iload_n 1, 1, (0, 0, [], 0, 0)), (93, .imul, 1, (0, 0, [], 0, 0)), (94, .iload 4, 2, (0, 0, [], 0, 0)), (96, .iadd, 1, (0, 0, [], 0, 0)), (97, .iaload, 1, (0, 0, [], 0, 0)), (98, .bipush (-6), 2, (0, 0, [], 0, 0)), (100, .if_icmp .eq 7, 3, (107, 0, [], 0, 0)), (103, .iconst 1, 1, (0, 0, [], 0, 0)), (104, .goto 4, 3, (108, 0, [], 0, 0)), (107, .iconst 0, 1, (0, 0, [], 0, 0)), (108, .iadd, 1, (0, 0, [], 0, 0)), (109, .istore_n 3, 1, (0, 0, [], 0, 0)), (110, .iinc 4 1, 3, (0, 0, [], 0, 0)), (113, .goto (-35), 3, (78, 0, [], 0, 0)), (116, .aload_n 0, 1, (0, 0, [], 0, 0)), (117, .getfield 7, 3, (0, 0, [(9, 1)], 0, 685)), (120, .iload_n 1, 1, (0, 0, [], 0, 0)), (121, .iaload, 1, (0, 0, [], 0, 0)), (122, .ifCond .ne 12, 3, (134, 0, [], 0, 0)), (125, .aload_n 0, 1, (0, 0, [], 0, 0)), (126, .getfield 46, 3, (0, 0, [(9, 14)], 0, 698)), (129, .iload_n 1, 1, (0, 0, [], 0, 0)), (130, .iaload, 1, (0, 0, [], 0, 0)), (131, .goto 4, 3, (135, 0, [], 0, 0)), (134, .iload_n 3, 1, (0, 0, [], 0, 0)), (135, .ireturn, 1, (0, 0, [], 0, 0)), (136, .aload_n 0, 1, (0, 0, [], 0, 0)), (137, .getfield 25, 3, (0, 0, [(9, 6)], 0, 690)), (140, .iload_n 1, 1, (0, 0, [], 0, 0)), (141, .iaload, 1, (0, 0, [], 0, 0)), (142, .ireturn, 1, (0, 0, [], 0, 0)), (143, .aload_n 0, 1, (0, 0, [], 0, 0)), (144, .getfield 28, 3, (0, 0, [(9, 7)], 0, 691)), (147, .iload_n 1, 1, (0, 0, [], 0, 0)), (148, .iaload, 1, (0, 0, [], 0, 0)), (149, .ireturn, 1, (0, 0, [], 0, 0)), (150, .iconst 0, 1, (0, 0, [], 0, 0)), (151, .istore 4, 2, (0, 0, [], 0, 0)), (153, .iconst 0, 1, (0, 0, [], 0, 0)), (154, .istore 5, 2, (0, 0, [], 0, 0)), (156, .iload 5, 2, (0, 0, [], 0, 0)), (158, .aload_n 0, 1, (0, 0, [], 0, 0)), (159, .getfield 22, 3, (0, 0, [(9, 5)], 0, 689)), (162, .iload_n 1, 1, (0, 0, [], 0, 0)), (163, .iaload, 1, (0, 0, [], 0, 0)), (164, .if_icmp .ge 30, 3, (194, 0, [], 0, 0)), (167, .iload 4, 2, (0, 0, [], 0, 0)), (169, .aload_n 0, 1, (0, 0, [], 0, 0)), (170, .iload_n 1, 1, (0, 0, [], 0, 0)), (171, .iload 5, 2, (0, 0, [], 0, 0)), (173, .invokevirtual 146, 3, (80, 2, [(9, 0)], 4, 842)), (176, .iconst 1, 1, (0, 0, [], 0, 0)), (177, .if_icmp .ne 7, 3, (184, 0, [], 0, 0)), (180, .iconst 1, 1, (0, 0, [], 0, 0)), (181, .goto 4, 3, (185, 0, [], 0, 0)), (184, .iconst 0, 1, (0, 0, [], 0, 0)), (185, .iadd, 1, (0, 0, [], 0, 0)), (186, .istore 4, 2, (0, 0, [], 0, 0)), (188, .iinc 5 1, 3, (0, 0, [], 0, 0)), (191, .goto (-35), 3, (156, 0, [], 0, 0)), (194, .iload 4, 2, (0, 0, [], 0, 0)), (196, .ireturn, 1, (0, 0, [], 0, 0)), (197, .bipush (-2), 2, (0, 0, [], 0, 0)), (199, .ireturn, 1, (0, 0, [], 0, 0))]
def p_tb101 : am_T := [(0, .aload_n 0, 1, (0, 0, [], 0, 0)), (1, .iload_n 1, 1, (0, 0, [], 0, 0)), (2, .invokevirtual 113, 3, (75, 1, [(9, 0)], 4, 798)), (5, .ifCond .ne 19, 3, (24, 0, [], 0, 0)), (8, .iload_n 2, 1, (0, 0, [], 0, 0)), (9, .iconst 0, 1, (0, 0, [], 0, 0)), (10, .aload_n 0, 1, (0, 0, [], 0, 0)), (11, .getfield 22, 3, (0, 0, [(9, 5)], 0, 689)), (14, .iload_n 1, 1, (0, 0, [], 0, 0)), (15, .iaload, 1, (0, 0, [], 0, 0)), (16, .iconst 1, 1, (0, 0, [], 0, 0)), (17, .isub, 1, (0, 0, [], 0, 0)), (18, .invokestatic 89, 3, (74, 3, [], 0, 791)), (21, .ifCond .eq 5, 3, (26, 0, [], 0, 0)), (24, .iconst (-1), 1, (0, 0, [], 0, 0)), (25, .ireturn, 1, (0, 0, [], 0, 0)), (26, .iload_n 3, 1, (0, 0, [], 0, 0)), (27, .ifCond .ne 12, 3, (39, 0, [], 0, 0)), (30, .aload_n 0, 1, (0, 0, [], 0, 0)), (31, .iload_n 1, 1, (0, 0, [], 0, 0)), (32, .iload_n 2, 1, (0, 0, [], 0, 0)), (33, .invokevirtual 149, 3, (81, 2, [(9, 0)], 4, 846)), (36, .goto 33, 3, (69, 0, [], 0, 0)), (39, .iload_n 3, 1, (0, 0, [], 0, 0)), (40, .iconst 1, 1, (0, 0, [], 0, 0)), (41, .if_icmp .ne 12, 3, (53, 0, [], 0, 0)), (44, .aload_n 0, 1, (0, 0, [], 0, 0)), (45, .iload_n 1, 1, (0, 0, [], 0, 0)), (46, .iload_n 2, 1, (0, 0, [], 0, 0)), (47, .invokevirtual 165, 3, (79, 2, [(9, 0)], 4, 874)), (50, .goto 19, 3, (69, 0, [], 0, 0)), (53, .iload_n 3, 1, (0, 0, [], 0, 0)), (54, .iconst 2, 1, (0, 0, [], 0, 0)), (55, .if_icmp .ne 12, 3, (67, 0, [], 0, 0)), (58, .aload_n 0, 1, (0, 0, [], 0, 0)), (59, .iload_n 1, 1, (0, 0, [], 0, 0)), (60, .iload_n 2, 1, (0, 0, [], 0, 0)), (61, .invokevirtual 146, 3, (80, 2, [(9, 0)], 4, 842)), (64, .goto 5, 3, (69, 0, [], 0, 0)), (67, .bipush (-2), 2, (0, 0, [], 0, 0)), (69, .ireturn, 1, (0, 0, [], 0, 0))]
def p_tb102 : am_T := [(0, .aload_n 0, 1, (0, 0, [], 0, 0)), (1, .iload_n 1, 1, (0, 0, [], 0, 0)), (2, .invokevirtual 113, 3, (75, 1, [(9, 0)], 4, 798)), (5, .ifCond .ne 28, 3, (33, 0, [], 0, 0)), (8, .aload_n 0, 1, (0, 0, [], 0, 0)), (9, .getfield 7, 3, (0, 0, [(9, 1)], 0, 685)), (12, .iload_n 1, 1, (0, 0, [], 0, 0)), (13, .iaload, 1, (0, 0, [], 0, 0)), (14, .ifCond .ne 19, 3, (33, 0, [], 0, 0)), (17, .iload_n 2, 1, (0, 0, [], 0, 0)), (18, .iconst 0, 1, (0, 0, [], 0, 0)), (19, .aload_n 0, 1, (0, 0, [], 0, 0)), (20, .getfield 46, 3, (0, 0, [(9, 14)], 0, 698)), (23, .iload_n 1, 1, (0, 0, [], 0, 0)), (24, .iaload, 1, (0, 0, [], 0, 0)), (25, .iconst 1, 1, (0, 0, [], 0, 0)), (26, .isub, 1, (0, 0, [], 0, 0)), (27, .invokestatic 89, 3, (74, 3, [], 0, 791)), (30, .ifCond .eq 7, 3, (37, 0, [], 0, 0)), (33, .ldc2_w 171, 3, (0, 0, [], (-9223372036854775808), 0)), (36, .lreturn, 1, (0, 0, [], 0, 0)), (37, .iload_n 1, 1, (0, 0, [], 0, 0)), (38, .bipush 100, 2, (0, 0, [], 0, 0)), (40, .imul, 1, (0, 0, [], 0, 0)), (41, .bipush 20, 2, (0, 0, [], 0, 0)), (43, .imul, 1, (0, 0, [], 0, 0)), (44, .iload_n 2, 1, (0, 0, [], 0, 0)), (45, .iadd, 1, (0, 0, [], 0, 0)), (46, .istore 4, 2, (0, 0, [], 0, 0)), (48, .iload_n 3, 1, (0, 0, [], 0, 0)), (49, .ifCond .ne 14, 3, (63, 0, [], 0, 0)), (52, .aload_n 0, 1, (0, 0, [], 0, 0)), (53, .getfield 49, 3, (0, 0, [(9, 15)], 0, 699)), (56, .iload 4, 2, (0, 0, [], 0, 0)), (58, .iaload, 1, (0, 0, [], 0, 0)), (59, .i2l, 1, (0, 0, [], 0, 0)), (60, .goto 54, 3, (114, 0, [], 0, 0)), (63, .iload_n 3, 1, (0, 0, [], 0, 0)), (64, .iconst 1, 1, (0, 0, [], 0, 0)), (65, .if_icmp .ne 14, 3, (79, 0, [], 0, 0)), (68, .aload_n 0, 1, (0, 0, [], 0, 0)), (69, .getfield 52, 3, (0, 0, [(9, 16)], 0, 700)), (72, .iload 4, 2, (0, 0, [], 0, 0)), (74, .iaload, 1, (0, 0, [], 0, 0)), (75, .i2l, 1, (0, 0, [], 0, 0)), (76, .goto 38, 3, (114, 0, [], 0, 0)), (79, .iload_n 3, 1, (0, 0, [], 0, 0)), (80, .iconst 2, 1, (0, 0, [], 0, 0)), (81, .if_icmp .ne 14, 3, (95, 0, [], 0, 0)), (84, .aload_n 0, 1, (0, 0, [], 0, 0)), (85, .getfield 55, 3, (0, 0, [(9, 17)], 0, 701)), (88, .iload 4, 2, (0, 0, [], 0, 0)), (90, .iaload, 1, (0, 0, [], 0, 0)), (91, .i2l, 1, (0, 0, [], 0, 0)), (92, .goto 22, 3, (114, 0, [], 0, 0)), (95, .iload_n 3, 1, (0, 0, [], 0, 0)), (96, .iconst 3, 1, (0, 0, [], 0, 0)), (97, .if_icmp .ne 14, 3, (111, 0, [], 0, 0)), (100, .aload_n 0, 1, (0, 0, [], 0, 0)), (101, .getfield 58, 3, (0, 0, [(9, 18)], 0, 702)), (104, .iload 4, 2, (0, 0, [], 0, 0)), (106, .iaload, 1, (0, 0, [], 0, 0)), (107, .i2l, 1, (0, 0, [], 0, 0)), (108, .goto 6, 3, (114, 0, [], 0, 0)), (111, .ldc2_w 171, 3, (0, 0, [], (-9223372036854775808), 0)), (114, .lreturn, 1, (0, 0, [], 0, 0))]
def p_tb103 : am_T := [(0, .aload_n 0, 1, (0, 0, [], 0, 0)), (1, .iload_n 1, 1, (0, 0, [], 0, 0)), (2, .invokevirtual 113, 3, (75, 1, [(9, 0)], 4, 798)), (5, .ifCond .ne 39, 3, (44, 0, [], 0, 0)), (8, .aload_n 0, 1, (0, 0, [], 0, 0)), (9, .getfield 7, 3, (0, 0, [(9, 1)], 0, 685)), (12, .iload_n 1, 1, (0, 0, [], 0, 0)), (13, .iaload, 1, (0, 0, [], 0, 0)), (14, .iconst 1, 1, (0, 0, [], 0, 0)), (15, .if_icmp .ne 29, 3, (44, 0, [], 0, 0)), (18, .iload_n 2, 1, (0, 0, [], 0, 0)), (19, .iconst 0, 1, (0, 0, [], 0, 0)), (20, .bipush 9, 2, (0, 0, [], 0, 0)), (22, .invokestatic 89, 3, (74, 3, [], 0, 791)), (25, .ifCond .ne 19, 3, (44, 0, [], 0, 0)), (28, .aload_n 0, 1, (0, 0, [], 0, 0)), (29, .getfield 61, 3, (0, 0, [(9, 19)], 0, 703)), (32, .bipush 10, 2, (0, 0, [], 0, 0)), (34, .iload_n 1, 1, (0, 0, [], 0, 0)), (35, .imul, 1, (0, 0, [], 0, 0)), (36, .iload_n 2, 1, (0, 0, [], 0, 0)), (37, .iadd, 1, (0, 0, [], 0, 0)), (38, .iaload, 1, (0, 0, [], 0, 0)), (39, .bipush (-6), 2, (0, 0, [], 0, 0)), (41, .if_icmp .ne 7, 3, (48, 0, [], 0, 0)), (44, .ldc2_w 171, 3, (0, 0, [], (-9223372036854775808), 0)), (47, .lreturn, 1, (0, 0, [], 0, 0)), (48, .bipush 10, 2, (0, 0, [], 0, 0)), (50, .iload_n 1, 1, (0, 0, [], 0, 0)), (51, .imul, 1, (0, 0, [], 0, 0)), (52, .iload_n 2, 1, (0, 0, [], 0, 0)), (53, .iadd, 1, (0, 0, [], 0, 0)), (54, .istore 4, 2, (0, 0, [], 0, 0)), (56, .iload_n 3, 1, (0, 0, [], 0, 0)), (57, .ifCond .ne 14, 3, (71, 0, [], 0, 0)), (60, .aload_n 0, 1, (0, 0, [], 0, 0)), (61, .getfield 67, 3, (0, 0, [(9, 21)], 0, 705)), (64, .iload 4, 2, (0, 0, [], 0, 0)), (66, .iaload, 1, (0, 0, [], 0, 0)), (67, .i2l, 1, (0, 0, [], 0, 0)), (68, .goto 38, 3, (106, 0, [], 0, 0)), (71, .iload_n 3, 1, (0, 0, [], 0, 0)), (72, .iconst 1, 1, (0, 0, [], 0, 0)), (73, .if_icmp .ne 14, 3, (87, 0, [], 0, 0)), (76, .aload_n 0, 1, (0, 0, [], 0, 0)), (77, .getfield 61, 3, (0, 0, [(9, 19)], 0, 703)), (80, .iload 4, 2, (0, 0, [], 0, 0)), (82, .iaload, 1, (0, 0, [], 0, 0)), (83, .i2l, 1, (0, 0, [], 0, 0)), (84, .goto 22, 3, (106, 0, [], 0, 0)), (87, .iload_n 3, 1, (0, 0, [], 0, 0)), (88, .iconst 2, 1, (0, 0, [], 0, 0)), (89, .if_icmp .ne 14, 3, (103, 0, [], 0, 0)), (92, .aload_n 0, 1, (0, 0, [], 0, 0)), (93, .getfield 64, 3, (0, 0, [(9, 20)], 0, 704)), (96, .iload 4, 2, (0, 0, [], 0, 0)), (98, .iaload, 1, (0, 0, [], 0, 0)), (99, .i2l, 1, (0, 0, [], 0, 0)), (100, .goto 6, 3, (106, 0, [], 0, 0)), (103, .ldc2_w 171, 3, (0, 0, [], (-9223372036854775808), 0)), (106, .lreturn, 1, (0, 0, [], 0, 0))]
def p_tb104 : am_T := [(0, .aload_n 0, 1, (0, 0, [], 0, 0)), (1, .iload_n 1, 1, (0, 0, [], 0, 0)), (2, .invokevirtual 113, 3, (75, 1, [(9, 0)], 4, 798)), (5, .ifCond .eq 5, 3, (10, 0, [], 0, 0)), (8, .iconst (-1), 1, (0, 0, [], 0, 0)), (9, .ireturn, 1, (0, 0, [], 0, 0)), (10, .aload_n 0, 1, (0, 0, [], 0, 0)), (11, .getfield 7, 3, (0, 0, [(9, 1)], 0, 685)), (14, .iload_n 1, 1, (0, 0, [], 0, 0)), (15, .iaload, 1, (0, 0, [], 0, 0)), (16, .iconst 1, 1, (0, 0, [], 0, 0)), (17, .if_icmp .ne 6, 3, (23, 0, [], 0, 0)), (20, .bipush (-3), 2, (0, 0, [], 0, 0)), (22, .ireturn, 1, (0, 0, [], 0, 0)), (23, .aload_n 0, 1, (0, 0, [], 0, 0)), (24, .getfield 173, 3, (0, 0, [(9, 22)], 0, 706)), (27, .iconst 4, 1, (0, 0, [], 0, 0)), (28, .if_icmp .ne 6, 3, (34, 0, [], 0, 0)), (31, .bipush (-4), 2, (0, 0, [], 0, 0)), (33, .ireturn, 1, (0, 0, [], 0, 0)), (34, .aload_n 0, 1, (0, 0, [], 0, 0)), (35, .getfield 70, 3, (0, 0, [(9, 23)], 0, 707)), (38, .aload_n 0, 1, (0, 0, [], 0, 0)), (39, .getfield 173, 3, (0, 0, [(9, 22)], 0, 706)), (42, .iload_n 1, 1, (0, 0, [], 0, 0)), (43, .iastore, 1, (0, 0, [], 0, 0)), (44, .aload_n 0, 1, (0, 0, [], 0, 0)), (45, .getfield 73, 3, (0, 0, [(9, 24)], 0, 708)), (48, .aload_n 0, 1, (0, 0, [], 0, 0)), (49, .getfield 173, 3, (0, 0, [(9, 22)], 0, 706)), (52, .iconst 0, 1, (0, 0, [], 0, 0)), (53, .iastore, 1, (0, 0, [], 0, 0)), (54, .aload_n 0, 1, (0, 0, [], 0, 0)), (55, .dup, 1, (0, 0, [], 0, 0)), (56, .getfield 173, 3, (0, 0, [(9, 22)], 0, 706)), (59, .iconst 1, 1, (0, 0, [], 0, 0)), (60, .iadd, 1, (0, 0, [], 0, 0)), (61, .putfield 173, 3, (0, 0, [(9, 22)], 0, 706)), (64, .aload_n 0, 1, (0, 0, [], 0, 0)), (65, .getfield 173, 3, (0, 0, [(9, 22)], 0, 706)), (68, .iconst 1, 1, (0, 0, [], 0, 0)), (69, .isub, 1, (0, 0, [], 0, 0)), (70, .ireturn, 1, (0, 0, [], 0, 0))]
def p_tb105 : am_T := [(0, .iload_n 1, 1, (0, 0, [], 0, 0)), (1, .iconst 0, 1, (0, 0, [], 0, 0)), (2, .aload_n 0, 1, (0, 0, [], 0, 0)), (3, .getfield 173, 3, (0, 0, [(9, 22)], 0, 706)), (6, .iconst 1, 1, (0, 0, [], 0, 0)), (7, .isub, 1, (0, 0, [], 0, 0)), (8, .invokestatic 89, 3, (74, 3, [], 0, 791)), (11, .ifCond .eq 5, 3, (16, 0, [], 0, 0)), (14, .iconst (-1), 1, (0, 0, [], 0, 0)), (15, .ireturn, 1, (0, 0, [], 0, 0)), (16, .iload_n 2, 1, (0, 0, [], 0, 0)), (17, .iconst 1, 1, (0, 0, [], 0, 0)), (18, .bipush 100, 2, (0, 0, [], 0, 0)), (20, .invokestatic 89, 3, (74, 3, [], 0, 791)), (23, .ifCond .eq 6, 3, (29, 0, [], 0, 0)), (26, .bipush (-2), 2, (0, 0, [], 0, 0)), (28, .ireturn, 1, (0, 0, [], 0, 0)), (29, .iload_n 2, 1, (0, 0, [], 0, 0)), (30, .aload_n 0, 1, (0, 0, [], 0, 0)), (31, .getfield 46, 3, (0, 0, [(9, 14)], 0, 698)), (34, .aload_n 0, 1, (0, 0, [], 0, 0)), (35, .getfield 70, 3, (0, 0, [(9, 23)], 0, 707)), (38, .iload_n 1, 1, (0, 0, [], 0, 0)), (39, .iaload, 1, (0, 0, [], 0, 0)), (40, .iaload, 1, (0, 0, [], 0, 0)), (41, .aload_n 0, 1, (0, 0, [], 0, 0)), (42, .getfield 73, 3, (0, 0, [(9, 24)], 0, 708)), (45, .iload_n 1, 1, (0, 0, [], 0, 0)), (46, .iaload, 1, (0, 0, [], 0, 0)), (47, .isub, 1, (0, 0, [], 0, 0)), (48, .invokestatic 176, 3, (73, 2, [], 0, 919)), (51, .istore_n 3, 1, (0, 0, [], 0, 0)), (52, .aload_n 0, 1, (0, 0, [], 0, 0)), (53, .getfield 73, 3, (0, 0, [(9, 24)], 0, 708)), (56, .iload_n 1, 1, (0, 0, [], 0, 0)), (57, .dup2, 1, (0, 0, [], 0, 0)), (58, .iaload, 1, (0, 0, [], 0, 0)), (59, .iload_n 3, 1, (0, 0, [], 0, 0)), (60, .iadd, 1, (0, 0, [], 0, 0)), (61, .iastore, 1, (0, 0, [], 0, 0)), (62, .iload_n 3, 1, (0, 0, [], 0, 0)), (63, .ireturn, 1, (0, 0, [], 0, 0))]
def p_tb106 : am_T := [(0, .iload_n 1, 1, (0, 0, [], 0, 0)), (1, .iconst 0, 1, (0, 0, [], 0, 0)), (2, .aload_n 0, 1, (0, 0, [], 0, 0)), (3, .getfield 173, 3, (0, 0, [(9, 22)], 0, 706)), (6, .iconst 1, 1, (0, 0, [], 0, 0)), (7, .isub, 1, (0, 0, [], 0, 0)), (8, .invokestatic 89, 3, (74, 3, [], 0, 791)), (11, .ifCond .eq 5, 3, (16, 0, [], 0, 0)), (14, .iconst (-1), 1, (0, 0, [], 0, 0)), (15, .ireturn, 1, (0, 0, [], 0, 0)), (16, .iload_n 2, 1, (0, 0, [], 0, 0)), (17, .bipush (-6), 2, (0, 0, [], 0, 0)), (19, .if_icmp .eq 16, 3, (35, 0, [], 0, 0)), (22, .iload_n 2, 1, (0, 0, [], 0, 0)), (23, .iconst 0, 1, (0, 0, [], 0, 0)), (24, .bipush 9, 2, (0, 0, [], 0, 0)), (26, .invokestatic 89, 3, (74, 3, [], 0, 791)), (29, .ifCond .eq 6, 3, (35, 0, [], 0, 0)), (32, .bipush (-2), 2, (0, 0, [], 0, 0)), (34, .ireturn, 1, (0, 0, [], 0, 0)), (35, .iconst 0, 1, (0, 0, [], 0, 0)), (36, .istore_n 3, 1, (0, 0, [], 0, 0)), (37, .iconst 0, 1, (0, 0, [], 0, 0)), (38, .istore 4, 2, (0, 0, [], 0, 0)), (40, .iload 4, 2, (0, 0, [], 0, 0)), (42, .aload_n 0, 1, (0, 0, [], 0, 0)), (43, .getfield 73, 3, (0, 0, [(9, 24)], 0, 708)), (46, .iload_n 1, 1, (0, 0, [], 0, 0)), (47, .iaload, 1, (0, 0, [], 0, 0)), (48, .if_icmp .ge 47, 3, (95, 0, [], 0, 0)), (51, .iload_n 3, 1, (0, 0, [], 0, 0)), (52, .iload_n 2, 1, (0, 0, [], 0, 0)), (53, .bipush (-6), 2, (0, 0, [], 0, 0)), (55, .if_icmp .eq 27, 3, (82, 0, [], 0, 0)), (58, .aload_n 0, 1, (0, 0, [], 0, 0)), (59, .getfield 49, 3, (0, 0, [(9, 15)], 0, 699)), (62, .aload_n 0, 1, (0, 0, [], 0, 0)), (63, .getfield 70, 3, (0, 0, [(9, 23)], 0, 707)), (66, .iload_n 1, 1, (0, 0, [], 0, 0)), (67, .iaload, 1, (0, 0, [], 0, 0)), (68, .bipush 100, 2, (0, 0, [], 0, 0)), (70, .imul, 1, (0, 0, [], 0, 0)), (71, .bipush 20, 2, (0, 0, [], 0, 0)), (73, .imul, 1, (0, 0, [], 0, 0)), (74, .iload 4, 2, (0, 0, [], 0, 0)), (76, .iadd, 1, (0, 0, [], 0, 0)), (77, .iaload, 1, (0, 0, [], 0, 0)), (78, .iload_n 2, 1, (0, 0, [], 0, 0)), (79, .if_icmp .ne 7, 3, (86, 0, [], 0, 0)), (82, .iconst 1, 1, (0, 0, [], 0, 0)), (83, .goto 4, 3, (87, 0, [], 0, 0)), (86, .iconst 0, 1, (0, 0, [], 0, 0)), (87, .iadd, 1, (0, 0, [], 0, 0)), (88, .istore_n 3, 1, (0, 0, [], 0, 0)), (89, .iinc 4 1, 3, (0, 0, [], 0, 0)), (92, .goto (-52), 3, (40, 0, [], 0, 0)), (95, .iload_n 3, 1, (0, 0, [], 0, 0)), (96, .ireturn, 1, (0, 0, [], 0, 0))]
def p_tb107 : am_T := [(0, .iload_n 1, 1, (0, 0, [], 0, 0)), (1, .iconst 0, 1, (0, 0, [], 0, 0)), (2, .aload_n 0, 1, (0, 0, [], 0, 0)), (3, .getfield 107, 3, (0, 0, [(9, 8)], 0, 692)), (6, .iconst 1, 1, (0, 0, [], 0, 0)), (7, .isub, 1, (0, 0, [], 0, 0)), (8, .invokestatic 89, 3, (74, 3, [], 0, 791)), (11, .ifCond .eq 5, 3, (16, 0, [], 0, 0)), (14, .iconst (-1), 1, (0, 0, [], 0, 0)), (15, .ireturn, 1, (0, 0, [], 0, 0)), (16, .iload_n 2, 1, (0, 0, [], 0, 0)), (17, .ifCond .ne 12, 3, (29, 0, [], 0, 0)), (20, .aload_n 0, 1, (0, 0, [], 0, 0)), (21, .getfield 31, 3, (0, 0, [(9, 9)], 0, 693)), (24, .iload_n 1, 1, (0, 0, [], 0, 0)), (25, .iaload, 1, (0, 0, [], 0, 0)), (26, .goto 61, 3, (87, 0, [], 0, 0)), (29, .iload_n 2, 1, (0, 0, [], 0, 0)), (30, .iconst 1, 1, (0, 0, [], 0, 0)), (31, .if_icmp .ne 12, 3, (43, 0, [], 0, 0)), (34, .aload_n 0, 1, (0, 0, [], 0, 0)), (35, .getfield 34, 3, (0, 0, [(9, 10)], 0, 694)), (38, .iload_n 1, 1, (0, 0, [], 0, 0)), (39, .iaload, 1, (0, 0, [], 0, 0)), (40, .goto 47, 3, (87, 0, [], 0, 0)), (43, .iload_n 2, 1, (0, 0, [], 0, 0)), (44, .iconst 2, 1, (0, 0, [], 0, 0)), (45, .if_icmp .ne 12, 3, (57, 0, [], 0, 0)), (48, .aload_n 0, 1, (0, 0, [], 0, 0)), (49, .getfield 37, 3, (0, 0, [(9, 11)], 0, 695)), (52, .iload_n 1, 1, (0, 0, [], 0, 0)), (53, .iaload, 1, (0, 0, [], 0, 0)), (54, .goto 33, 3, (87, 0, [], 0, 0)), (57, .iload_n 2, 1, (0, 0, [], 0, 0)), (58, .iconst 3, 1, (0, 0, [], 0, 0)), (59, .if_icmp .ne 12, 3, (71, 0, [], 0, 0)), (62, .aload_n 0, 1, (0, 0, [], 0, 0)), (63, .getfield 40, 3, (0, 0, [(9, 12)], 0, 696)), (66, .iload_n 1, 1, (0, 0, [], 0, 0)), (67, .iaload, 1, (0, 0, [], 0, 0)), (68, .goto 19, 3, (87, 0, [], 0, 0)), (71, .iload_n 2, 1, (0, 0, [], 0, 0)), (72, .iconst 4, 1, (0, 0, [], 0, 0)), (73, .if_icmp .ne 12, 3, (85, 0, [], 0, 0)), (76, .aload_n 0, 1, (0, 0, [], 0, 0)), (77, .getfield 43, 3, (0, 0, [(9, 13)], 0, 697)), (80, .iload_n 1, 1, (0, 0, [], 0, 0)), (81, .iaload, 1, (0, 0, [], 0, 0)), (82, .goto 5, 3, (87, 0, [], 0, 0)), (85, .bipush (-2), 2, (0, 0, [], 0, 0)), (87, .ireturn, 1, (0, 0, [], 0, 0))]
def p_tb108 : am_T := [(0, .iload_n 1, 1, (0, 0, [], 0, 0)), (1, .tableswitch 112 0 8 #[51, 56, 61, 66, 71, 84, 97, 102, 107], 51, (113, 0, [(0, 52), (1, 57), (2, 62), (3, 67), (4, 72), (5, 85), (6, 98), (7, 103), (8, 108)], 0, 0)), (52, .aload_n 0, 1, (0, 0, [], 0, 0)), (53, .getfield 86, 3, (0, 0, [(9, 0)], 0, 684)), (56, .ireturn, 1, (0, 0, [], 0, 0)), (57, .aload_n 0, 1, (0, 0, [], 0, 0)), (58, .getfield 107, 3, (0, 0, [(9, 8)], 0, 692)), (61, .ireturn, 1, (0, 0, [], 0, 0)), (62, .aload_n 0, 1, (0, 0, [], 0, 0)), (63, .getfield 76, 3, (0, 0, [(9, 25)], 0, 709)), (66, .ireturn, 1, (0, 0, [], 0, 0)), (67, .aload_n 0, 1, (0, 0, [], 0, 0)), (68, .invokevirtual 127, 3, (84, 0, [(9, 0)], 4, 810)), (71, .ireturn, 1, (0, 0, [], 0, 0)), (72, .aload_n 0, 1, (0, 0, [], 0, 0)), (73, .getfield 117, 3, (0, 0, [(9, 29)], 0, 713)), (76, .ifCond .eq 7, 3, (83, 0, [], 0, 0)), (79, .iconst 1, 1, (0, 0, [], 0, 0)), (80, .goto 4, 3, (84, 0, [], 0, 0)), (83, .iconst 0, 1, (0, 0, [], 0, 0)), (84, .ireturn, 1, (0, 0, [], 0, 0)), (85, .aload_n 0, 1, (0, 0, [], 0, 0)), (86, .getfield 93, 3, (0, 0, [(9, 30)], 0, 714)), (89, .ifCond .eq 7, 3, (96, 0, [], 0, 0)), (92, .iconst 1, 1, (0, 0, [], 0, 0)), (93, .goto 4, 3, (97, 0, [], 0, 0)), (96, .iconst 0, 1, (0, 0, [], 0, 0)), (97, .ireturn, 1, (0, 0, [], 0, 0)), (98, .aload_n 0, 1, (0, 0, [], 0, 0)), (99, .getfield 100, 3, (0, 0, [(9, 32)], 0, 716)), (102, .ireturn, 1, (0, 0, [], 0, 0)), (103, .aload_n 0, 1, (0, 0, [], 0, 0)), (104, .getfield 110, 3, (0, 0, [(9, 28)], 0, 712)), (107, .ireturn, 1, (0, 0, [], 0, 0)), (108, .aload_n 0, 1, (0, 0, [], 0, 0)), (109, .getfield 173, 3, (0, 0, [(9, 22)], 0, 706)), (112, .ireturn, 1, (0, 0, [], 0, 0)), (113, .bipush (-2), 2, (0, 0, [], 0, 0)), (115, .ireturn, 1, (0, 0, [], 0, 0))]
def p_tb109 : am_T := [(0, .iconst 0, 1, (0, 0, [], 0, 0)), (1, .istore_n 1, 1, (0, 0, [], 0, 0)), (2, .iconst 0, 1, (0, 0, [], 0, 0)), (3, .istore_n 2, 1, (0, 0, [], 0, 0)), (4, .iload_n 2, 1, (0, 0, [], 0, 0)), (5, .aload_n 0, 1, (0, 0, [], 0, 0)), (6, .getfield 86, 3, (0, 0, [(9, 0)], 0, 684)), (9, .if_icmp .ge 180, 3, (189, 0, [], 0, 0)), (12, .iload_n 2, 1, (0, 0, [], 0, 0)), (13, .bipush 100, 2, (0, 0, [], 0, 0)), (15, .imul, 1, (0, 0, [], 0, 0)), (16, .bipush 20, 2, (0, 0, [], 0, 0)), (18, .imul, 1, (0, 0, [], 0, 0)), (19, .istore_n 3, 1, (0, 0, [], 0, 0)), (20, .iload_n 3, 1, (0, 0, [], 0, 0)), (21, .istore 4, 2, (0, 0, [], 0, 0)), (23, .iload 4, 2, (0, 0, [], 0, 0)), (25, .iload_n 3, 1, (0, 0, [], 0, 0)), (26, .aload_n 0, 1, (0, 0, [], 0, 0)), (27, .getfield 46, 3, (0, 0, [(9, 14)], 0, 698)), (30, .iload_n 2, 1, (0, 0, [], 0, 0)), (31, .iaload, 1, (0, 0, [], 0, 0)), (32, .iadd, 1, (0, 0, [], 0, 0)), (33, .if_icmp .ge 105, 3, (138, 0, [], 0, 0)), (36, .aload_n 0, 1, (0, 0, [], 0, 0)), (37, .iload_n 2, 1, (0, 0, [], 0, 0)), (38, .aload_n 0, 1, (0, 0, [], 0, 0)), (39, .getfield 55, 3, (0, 0, [(9, 17)], 0, 701)), (42, .iload 4, 2, (0, 0, [], 0, 0)), (44, .iaload, 1, (0, 0, [], 0, 0)), (45, .invokevirtual 149, 3, (81, 2, [(9, 0)], 4, 846)), (48, .istore 5, 2, (0, 0, [], 0, 0)), (50, .iload_n 1, 1, (0, 0, [], 0, 0)), (51, .iload 5, 2, (0, 0, [], 0, 0)), (53, .bipush (-6), 2, (0, 0, [], 0, 0)), (55, .if_icmp .eq 12, 3, (67, 0, [], 0, 0)), (58, .iload 5, 2, (0, 0, [], 0, 0)), (60, .aload_n 0, 1, (0, 0, [], 0, 0)), (61, .getfield 76, 3, (0, 0, [(9, 25)], 0, 709)), (64, .if_icmp .le 7, 3, (71, 0, [], 0, 0)), (67, .iconst 1, 1, (0, 0, [], 0, 0)), (68, .goto 4, 3, (72, 0, [], 0, 0)), (71, .iconst 0, 1, (0, 0, [], 0, 0)), (72, .iadd, 1, (0, 0, [], 0, 0)), (73, .istore_n 1, 1, (0, 0, [], 0, 0)), (74, .iload_n 3, 1, (0, 0, [], 0, 0)), (75, .istore 6, 2, (0, 0, [], 0, 0)), (77, .iload 6, 2, (0, 0, [], 0, 0)), (79, .iload 4, 2, (0, 0, [], 0, 0)), (81, .if_icmp .ge 51, 3, (132, 0, [], 0, 0)), (84, .iload_n 1, 1, (0, 0, [], 0, 0)), (85, .aload_n 0, 1, (0, 0, [], 0, 0)), (86, .getfield 55, 3, (0, 0, [(9, 17)], 0, 701)), (89, .iload 6, 2, (0, 0, [], 0, 0)), (91, .iaload, 1, (0, 0, [], 0, 0)), (92, .aload_n 0, 1, (0, 0, [], 0, 0)), (93, .getfield 55, 3, (0, 0, [(9, 17)], 0, 701)), (96, .iload 4, 2, (0, 0, [], 0, 0)), (98, .iaload, 1, (0, 0, [], 0, 0)), (99, .if_icmp .ne 24, 3, (123, 0, [], 0, 0)), (102, .aload_n 0, 1, (0, 0, [], 0, 0)), (103, .getfield 58, 3, (0, 0, [(9, 18)], 0, 702)), (106, .iload 6, 2, (0, 0, [], 0, 0)), (108, .iaload, 1, (0, 0, [], 0, 0)), (109, .aload_n 0, 1, (0, 0, [], 0, 0)), (110, .getfield 58, 3, (0, 0, [(9, 18)], 0, 702)), (113, .iload 4, 2, (0, 0, [], 0, 0)), (115, .iaload, 1, (0, 0, [], 0, 0)), (116, .if_icmp .lt 7, 3, (123, 0, [], 0, 0)), (119, .iconst 1, 1, (0, 0, [], 0, 0)), (120, .goto 4, 3, (124, 0, [], 0, 0)), (123, .iconst 0, 1, (0, 0, [], 0, 0)), (124, .iadd, 1, (0, 0, [], 0, 0)), (125, .istore_n 1, 1, (0, 0, [], 0, 0)), (126, .iinc 6 1, 3, (0, 0, [], 0, 0)), (129, .goto (-52), 3, (77, 0, [], 0, 0)), (132, .iinc 4 1, 3, (0, 0, [], 0, 0)), (135, .goto (-112), 3, (23, 0, [], 0, 0)), (138, .iconst 0, 1, (0, 0, [], 0, 0)), (139, .istore 4, 2, (0, 0, [], 0, 0)), (141, .iload 4, 2, (0, 0, [], 0, 0)), (143, .aload_n 0, 1, (0, 0, [], 0, 0)), (144, .getfield 22, 3, (0, 0, [(9, 5)], 0, 689)), (147, .iload_n 2, 1, (0, 0, [], 0, 0)), (148, .iaload, 1, (0, 0, [], 0, 0)), (149, .if_icmp .ge 34, 3, (183, 0, [], 0, 0)), (152, .iload_n 1, 1, (0, 0, [], 0, 0)), (153, .aload_n 0, 1, (0, 0, [], 0, 0)), (154, .iload_n 2, 1, (0, 0, [], 0, 0)), (155, .iload 4, 2, (0, 0, [], 0, 0)), (157, .invokevirtual 146, 3, (80, 2, [(9, 0)], 4, 842)), (160, .iconst 2, 1, (0, 0, [], 0, 0)), (161, .if_icmp .ne 13, 3, (174, 0, [], 0, 0)), (164, .aload_n 0, 1, (0, 0, [], 0, 0)), (165, .iload_n 2, 1, (0, 0, [], 0, 0)), (166, .iload 4, 2, (0, 0, [], 0, 0)), (168, .invokevirtual 179, 3, (110, 2, [(9, 0)], 4, 938)), (171, .goto 4, 3, (175, 0, [], 0, 0)), (174, .iconst 0, 1, (0, 0, [], 0, 0)), (175, .iadd, 1, (0, 0, [], 0, 0)), (176, .istore_n 1, 1, (0, 0, [], 0, 0)), (177, .iinc 4 1, 3, (0, 0, [], 0, 0)), (180, .goto (-39), 3, (141, 0, [], 0, 0)), (183, .iinc 2 1, 3, (0, 0, [], 0, 0)), (186, .goto (-182), 3, (4, 0, [], 0, 0)), (189, .iload_n 1, 1, (0, 0, [], 0, 0)), (190, .ireturn, 1, (0, 0, [], 0, 0))]
def p_tb110 : am_T := [(0, .iconst 0, 1, (0, 0, [], 0, 0)), (1, .istore_n 3, 1, (0, 0, [], 0, 0)), (2, .iconst 0, 1, (0, 0, [], 0, 0)), (3, .istore 4, 2, (0, 0, [], 0, 0)), (5, .iconst 0, 1, (0, 0, [], 0, 0)), (6, .istore 5, 2, (0, 0, [], 0, 0)), (8, .iload 5, 2, (0, 0, [], 0, 0)), (10, .aload_n 0, 1, (0, 0, [], 0, 0)), (11, .getfield 107, 3, (0, 0, [(9, 8)], 0, 692)), (14, .if_icmp .ge 83, 3, (97, 0, [], 0, 0)), (17, .aload_n 0, 1, (0, 0, [], 0, 0)), (18, .getfield 31, 3, (0, 0, [(9, 9)], 0, 693)), (21, .iload 5, 2, (0, 0, [], 0, 0)), (23, .iaload, 1, (0, 0, [], 0, 0)), (24, .ifCond .ne 67, 3, (91, 0, [], 0, 0)), (27, .aload_n 0, 1, (0, 0, [], 0, 0)), (28, .getfield 34, 3, (0, 0, [(9, 10)], 0, 694)), (31, .iload 5, 2, (0, 0, [], 0, 0)), (33, .iaload, 1, (0, 0, [], 0, 0)), (34, .iload_n 1, 1, (0, 0, [], 0, 0)), (35, .if_icmp .ne 56, 3, (91, 0, [], 0, 0)), (38, .aload_n 0, 1, (0, 0, [], 0, 0)), (39, .getfield 37, 3, (0, 0, [(9, 11)], 0, 695)), (42, .iload 5, 2, (0, 0, [], 0, 0)), (44, .iaload, 1, (0, 0, [], 0, 0)), (45, .iload_n 2, 1, (0, 0, [], 0, 0)), (46, .if_icmp .ne 45, 3, (91, 0, [], 0, 0)), (49, .iinc 4 1, 3, (0, 0, [], 0, 0)), (52, .aload_n 0, 1, (0, 0, [], 0, 0)), (53, .getfield 7, 3, (0, 0, [(9, 1)], 0, 685)), (56, .iload_n 1, 1, (0, 0, [], 0, 0)), (57, .iaload, 1, (0, 0, [], 0, 0)), (58, .iconst 1, 1, (0, 0, [], 0, 0)), (59, .if_icmp .ne 32, 3, (91, 0, [], 0, 0)), (62, .iload_n 3, 1, (0, 0, [], 0, 0)), (63, .aload_n 0, 1, (0, 0, [], 0, 0)), (64, .getfield 61, 3, (0, 0, [(9, 19)], 0, 703)), (67, .bipush 10, 2, (0, 0, [], 0, 0)), (69, .iload_n 1, 1, (0, 0, [], 0, 0)), (70, .imul, 1, (0, 0, [], 0, 0)), (71, .aload_n 0, 1, (0, 0, [], 0, 0)), (72, .getfield 40, 3, (0, 0, [(9, 12)], 0, 696)), (75, .iload 5, 2, (0, 0, [], 0, 0)), (77, .iaload, 1, (0, 0, [], 0, 0)), (78, .iadd, 1, (0, 0, [], 0, 0)), (79, .iaload, 1, (0, 0, [], 0, 0)), (80, .iload_n 2, 1, (0, 0, [], 0, 0)), (81, .if_icmp .lt 7, 3, (88, 0, [], 0, 0)), (84, .iconst 1, 1, (0, 0, [], 0, 0)), (85, .goto 4, 3, (89, 0, [], 0, 0)), (88, .iconst 0, 1, (0, 0, [], 0, 0)), (89, .iadd, 1, (0, 0, [], 0, 0)), (90, .istore_n 3, 1, (0, 0, [], 0, 0)), (91, .iinc 5 1, 3, (0, 0, [], 0, 0)), (94, .goto (-86), 3, (8, 0, [], 0, 0)), (97, .iconst 0, 1, (0, 0, [], 0, 0)), (98, .istore 5, 2, (0, 0, [], 0, 0)), (100, .iload 5, 2, (0, 0, [], 0, 0)), (102, .aload_n 0, 1, (0, 0, [], 0, 0)), (103, .getfield 46, 3, (0, 0, [(9, 14)], 0, 698)), (106, .iload_n 1, 1, (0, 0, [], 0, 0)), (107, .iaload, 1, (0, 0, [], 0, 0)), (108, .if_icmp .ge 36, 3, (144, 0, [], 0, 0)), (111, .iload_n 3, 1, (0, 0, [], 0, 0)), (112, .aload_n 0, 1, (0, 0, [], 0, 0)), (113, .getfield 55, 3, (0, 0, [(9, 17)], 0, 701)), (116, .iload_n 1, 1, (0, 0, [], 0, 0)), (117, .bipush 100, 2, (0, 0, [], 0, 0)), (119, .imul, 1, (0, 0, [], 0, 0)), (120, .bipush 20, 2, (0, 0, [], 0, 0)), (122, .imul, 1, (0, 0, [], 0, 0)), (123, .iload 5, 2, (0, 0, [], 0, 0)), (125, .iadd, 1, (0, 0, [], 0, 0)), (126, .iaload, 1, (0, 0, [], 0, 0)), (127, .iload_n 2, 1, (0, 0, [], 0, 0)), (128, .if_icmp .ne 7, 3, (135, 0, [], 0, 0)), (131, .iconst 1, 1, (0, 0, [], 0, 0)), (132, .goto 4, 3, (136, 0, [], 0, 0)), (135, .iconst 0, 1, (0, 0, [], 0, 0)), (136, .iadd, 1, (0, 0, [], 0, 0)), (137, .istore_n 3, 1, (0, 0, [], 0, 0)), (138, .iinc 5 1, 3, (0, 0, [], 0, 0)), (141, .goto (-41), 3, (100, 0, [], 0, 0)), (144, .iload 4, 2, (0, 0, [], 0, 0)), (146, .iload_n 3, 1, (0, 0, [], 0, 0)), (147, .isub, 1, (0, 0, [], 0, 0)), (148, .ireturn, 1, (0, 0, [], 0, 0))]
def p_tb111 : am_T := [(0, .iload_n 0, 1, (0, 0, [], 0, 0)), (1, .iload_n 1, 1, (0, 0, [], 0, 0)), (2, .if_icmp .lt 7, 3, (9, 0, [], 0, 0)), (5, .iload_n 0, 1, (0, 0, [], 0, 0)), (6, .goto 4, 3, (10, 0, [], 0, 0)), (9, .iload_n 1, 1, (0, 0, [], 0, 0)), (10, .ireturn, 1, (0, 0, [], 0, 0))]
def p_tb112 : am_T := [(0, .iload_n 0, 1, (0, 0, [], 0, 0)), (1, .iload_n 1, 1, (0, 0, [], 0, 0)), (2, .if_icmp .gt 7, 3, (9, 0, [], 0, 0)), (5, .iload_n 0, 1, (0, 0, [], 0, 0)), (6, .goto 4, 3, (10, 0, [], 0, 0)), (9, .iload_n 1, 1, (0, 0, [], 0, 0)), (10, .ireturn, 1, (0, 0, [], 0, 0))]
def p_tb113 : am_T := [(0, .aload_n 0, 1, (0, 0, [], 0, 0)), (1, .invokespecial 1, 3, (0, 0, [], 10, 76)), (4, .return_, 1, (0, 0, [], 0, 0))]
def p_tb114 : am_T := [(0, .aload_n 0, 1, (0, 0, [], 0, 0)), (1, .invokespecial 1, 3, (113, 0, [], 2, 73)), (4, .aload_n 0, 1, (0, 0, [], 0, 0)), (5, .iconst 0, 1, (0, 0, [], 0, 0)), (6, .putfield 7, 3, (0, 0, [(0, 0)], 0, 81)), (9, .return_, 1, (0, 0, [], 0, 0))]
def p_tb115 : am_T := [(0, .aload_n 0, 1, (0, 0, [], 0, 0)), (1, .invokespecial 1, 3, (114, 0, [], 2, 70)), (4, .aload_n 0, 1, (0, 0, [], 0, 0)), (5, .getstatic 39, 3, (0, 0, [], 0, 77)), (8, .putfield 9, 3, (0, 0, [(0, 1)], 0, 79)), (11, .return_, 1, (0, 0, [], 0, 0))]
def p_tb116 : am_T := [(0, .aload_n 0, 1, (0, 0, [], 0, 0)), (1, .getfield 9, 3, (0, 0, [(0, 1)], 0, 79)), (4, .arraylength, 1, (0, 0, [], 0, 0)), (5, .istore_n 2, 1, (0, 0, [], 0, 0)), (6, .iload_n 2, 1, (0, 0, [], 0, 0)), (7, .ifCond .gt 13, 3, (20, 0, [], 0, 0)), (10, .aload_n 0, 1, (0, 0, [], 0, 0)), (11, .getfield 9, 3, (0, 0, [(0, 1)], 0, 79)), (14, .getstatic 39, 3, (0, 0, [], 0, 77)), (17, .if_acmp .eq 28, 3, (45, 0, [], 0, 0)), (20, .iload_n 2, 1, (0, 0, [], 0, 0)), (21, .iload_n 1, 1, (0, 0, [], 0, 0)), (22, .iload_n 2, 1, (0, 0, [], 0, 0)), (23, .isub, 1, (0, 0, [], 0, 0)), (24, .iload_n 2, 1, (0, 0, [], 0, 0)), (25, .iconst 1, 1, (0, 0, [], 0, 0)), (26, .ishr, 1, (0, 0, [], 0, 0)), (27, .invokestatic 73, 3, (128, 3, [], 0, 269)), (30, .istore_n 3, 1, (0, 0, [], 0, 0)), (31, .aload_n 0, 1, (0, 0, [], 0, 0)), (32, .aload_n 0, 1, (0, 0, [], 0, 0)), (33, .getfield 9, 3, (0, 0, [(0, 1)], 0, 79)), (36, .iload_n 3, 1, (0, 0, [], 0, 0)), (37, .invokestatic 66, 3, (124, 2, [], 0, 277)), (40, .dup_x1, 1, (0, 0, [], 0, 0)), (41, .putfield 9, 3, (0, 0, [(0, 1)], 0, 79)), (44, .areturn, 1, (0, 0, [], 0, 0)), (45, .aload_n 0, 1, (0, 0, [], 0, 0)), (46, .bipush 10, 2, (0, 0, [], 0, 0)), (48, .iload_n 1, 1, (0, 0, [], 0, 0)), (49, .invokestatic 79, 3, (111, 2, [], 0, 306)), (52, .anewarray 7, 3, (0, 0, [], 0, 0)), (55, .dup_x1, 1, (0, 0, [], 0, 0)), (56, .putfield 9, 3, (0, 0, [(0, 1)], 0, 79)), (59, .areturn, 1, (0, 0, [], 0, 0))]
def p_tb117 : am_T := [(0, .aload_n 0, 1, (0, 0, [], 0, 0)), (1, .aload_n 0, 1, (0, 0, [], 0, 0)), (2, .getfield 48, 3, (0, 0, [(0, 2)], 0, 80)), (5, .iconst 1, 1, (0, 0, [], 0, 0)), (6, .iadd, 1, (0, 0, [], 0, 0)), (7, .invokevirtual 69, 3, (116, 1, [(0, 0)], 4, 265)), (10, .areturn, 1, (0, 0, [], 0, 0))]
def p_tb118 : am_T := [(0, .aload_n 0, 1, (0, 0, [], 0, 0)), (1, .getfield 48, 3, (0, 0, [(0, 2)], 0, 80)), (4, .ireturn, 1, (0, 0, [], 0, 0))]
def p_tb119 : am_T := [(0, .aload_n 0, 1, (0, 0, [], 0, 0)), (1, .getfield 9, 3, (0, 0, [(0, 1)], 0, 79)), (4, .iload_n 1, 1, (0, 0, [], 0, 0)), (5, .aaload, 1, (0, 0, [], 0, 0)), (6, .areturn, 1, (0, 0, [], 0, 0))]
def p_tb120 : am_T := [(0, .iload_n 1, 1, (0, 0, [], 0, 0)), (1, .aload_n 0, 1, (0, 0, [], 0, 0)), (2, .getfield 48, 3, (0, 0, [(0, 2)], 0, 80)), (5, .invokestatic 118, 3, (127, 2, [], 0, 320)), (8, .pop, 1, (0, 0, [], 0, 0)), (9, .aload_n 0, 1, (0, 0, [], 0, 0)), (10, .iload_n 1, 1, (0, 0, [], 0, 0)), (11, .invokevirtual 123, 3, (119, 1, [(0, 0)], 4, 326)), (14, .areturn, 1, (0, 0, [], 0, 0))]
def p_tb121 : am_T := [(0, .iload_n 3, 1, (0, 0, [], 0, 0)), (1, .aload_n 2, 1, (0, 0, [], 0, 0)), (2, .arraylength, 1, (0, 0, [], 0, 0)), (3, .if_icmp .ne 8, 3, (11, 0, [], 0, 0)), (6, .aload_n 0, 1, (0, 0, [], 0, 0)), (7, .invokevirtual 129, 3, (117, 0, [(0, 0)], 4, 261)), (10, .astore_n 2, 1, (0, 0, [], 0, 0)), (11, .aload_n 2, 1, (0, 0, [], 0, 0)), (12, .iload_n 3, 1, (0, 0, [], 0, 0)), (13, .aload_n 1, 1, (0, 0, [], 0, 0)), (14, .aastore, 1, (0, 0, [], 0, 0)), (15, .aload_n 0, 1, (0, 0, [], 0, 0)), (16, .iload_n 3, 1, (0, 0, [], 0, 0)), (17, .iconst 1, 1, (0, 0, [], 0, 0)), (18, .iadd, 1, (0, 0, [], 0, 0)), (19, .putfield 48, 3, (0, 0, [(0, 2)], 0, 80)), (22, .return_, 1, (0, 0, [], 0, 0))]
def p_tb122 : am_T := [(0, .aload_n 0, 1, (0, 0, [], 0, 0)), (1, .dup, 1, (0, 0, [], 0, 0)), (2, .getfield 63, 3, (0, 0, [(0, 0)], 0, 82)), (5, .iconst 1, 1, (0, 0, [], 0, 0)), (6, .iadd, 1, (0, 0, [], 0, 0)), (7, .putfield 63, 3, (0, 0, [(0, 0)], 0, 82)), (10, .aload_n 0, 1, (0, 0, [], 0, 0)), (11, .aload_n 1, 1, (0, 0, [], 0, 0)), (12, .aload_n 0, 1, (0, 0, [], 0, 0)), (13, .getfield 9, 3, (0, 0, [(0, 1)], 0, 79)), (16, .aload_n 0, 1, (0, 0, [], 0, 0)), (17, .getfield 48, 3, (0, 0, [(0, 2)], 0, 80)), (20, .invokevirtual 131, 3, (121, 3, [(0, 0)], 4, 257)), (23, .iconst 1, 1, (0, 0, [], 0, 0)), (24, .ireturn, 1, (0, 0, [], 0, 0))]
def p_tb123 : am_T := [(0, .iconst 0, 1, (0, 0, [], 0, 0)), (1, .istore_n 2, 1, (0, 0, [], 0, 0)), (2, .aload_n 0, 1, (0, 0, [], 0, 0)), (3, .arraylength, 1, (0, 0, [], 0, 0)), (4, .istore_n 3, 1, (0, 0, [], 0, 0)), (5, .iload_n 2, 1, (0, 0, [], 0, 0)), (6, .iload_n 3, 1, (0, 0, [], 0, 0)), (7, .if_icmp .ge 13, 3, (20, 0, [], 0, 0)), (10, .aload_n 0, 1, (0, 0, [], 0, 0)), (11, .iload_n 2, 1, (0, 0, [], 0, 0)), (12, .iload_n 1, 1, (0, 0, [], 0, 0)), (13, .iastore, 1, (0, 0, [], 0, 0)), (14, .iinc 2 1, 3, (0, 0, [], 0, 0)), (17, .goto (-12), 3, (5, 0, [], 0, 0)), (20, .return_, 1, (0, 0, [], 0, 0))]
def p_tb124 : am_T := [(0, .aload_n 0, 1, (0, 0, [], 0, 0)), (1, .iload_n 1, 1, (0, 0, [], 0, 0)), (2, .aload_n 0, 1, (0, 0, [], 0, 0)), (3, .invokevirtual 86, 3, (0, 0, [], 13, 280)), (6, .invokestatic 300, 3, (125, 3, [], 0, 294)), (9, .areturn, 1, (0, 0, [], 0, 0))]
def p_tb125 : am_T := [(0, .aload_n 2, 1, (0, 0, [], 0, 0)), (1, .ldc 110, 2, (1, 0, [], 0, 0)), (3, .if_acmp .ne 10, 3, (13, 0, [], 0, 0)), (6, .iload_n 1, 1, (0, 0, [], 0, 0)), (7, .anewarray 2, 3, (0, 0, [], 0, 0)), (10, .goto 14, 3, (24, 0, [], 0, 0)), (13, .aload_n 2, 1, (0, 0, [], 0, 0)), (17, .iload_n 1, 1, (0, 0, [], 0, 0)), (24, .astore_n 3, 1, (0, 0, [], 0, 0)), (25, .aload_n 0, 1, (0, 0, [], 0, 0)), (26, .iconst 0, 1, (0, 0, [], 0, 0)), (27, .aload_n 3, 1, (0, 0, [], 0, 0)), (28, .iconst 0, 1, (0, 0, [], 0, 0)), (29, .aload_n 0, 1, (0, 0, [], 0, 0)), (30, .arraylength, 1, (0, 0, [], 0, 0)), (31, .iload_n 1, 1, (0, 0, [], 0, 0)), (32, .invokestatic 304, 3, (112, 2, [], 0, 300)), (35, .invokestatic 150, 3, (0, 5, [], 11, 303)), (38, .aload_n 3, 1, (0, 0, [], 0, 0)), (39, .areturn, 1, (0, 0, [], 0, 0))]
def p_tb126 : am_T := [(0, .iload_n 1, 1, (0, 0, [], 0, 0)), (1, .aload_n 0, 1, (0, 0, [], 0, 0)), (2, .arraylength, 1, (0, 0, [], 0, 0)), (3, .if_icmp .ne 11, 3, (14, 0, [], 0, 0)), (6, .aload_n 0, 1, (0, 0, [], 0, 0)), (13, .areturn, 1, (0, 0, [], 0, 0)), (14, .iload_n 1, 1, (0, 0, [], 0, 0)), (15, .newarray .int, 2, (0, 0, [], 0, 0)), (17, .astore_n 2, 1, (0, 0, [], 0, 0)), (18, .aload_n 0, 1, (0, 0, [], 0, 0)), (19, .iconst 0, 1, (0, 0, [], 0, 0)), (20, .aload_n 2, 1, (0, 0, [], 0, 0)), (21, .iconst 0, 1, (0, 0, [], 0, 0)), (22, .aload_n 0, 1, (0, 0, [], 0, 0)), (23, .arraylength, 1, (0, 0, [], 0, 0)), (24, .iload_n 1, 1, (0, 0, [], 0, 0)), (25, .invokestatic 304, 3, (112, 2, [], 0, 300)), (28, .invokestatic 150, 3, (0, 5, [], 11, 303)), (31, .aload_n 2, 1, (0, 0, [], 0, 0)), (32, .areturn, 1, (0, 0, [], 0, 0))]
def p_tb127 : am_T := [(0, .iload_n 0, 1, (0, 0, [], 0, 0)), (1, .iload_n 1, 1, (0, 0, [], 0, 0)), (2, .aconst_null, 1, (0, 0, [], 0, 0)), (3, .invokestatic 105, 3, (129, 3, [], 0, 323)), (6, .ireturn, 1, (0, 0, [], 0, 0))]
def p_tb128 : am_T := [(0, .iload_n 0, 1, (0, 0, [], 0, 0)), (1, .iload_n 1, 1, (0, 0, [], 0, 0)), (2, .iload_n 2, 1, (0, 0, [], 0, 0)), (3, .invokestatic 194, 3, (111, 2, [], 0, 272)), (6, .iadd, 1, (0, 0, [], 0, 0)), (7, .istore_n 3, 1, (0, 0, [], 0, 0)), (8, .iconst 0, 1, (0, 0, [], 0, 0)), (9, .iload_n 3, 1, (0, 0, [], 0, 0)), (10, .if_icmp .ge 11, 3, (21, 0, [], 0, 0)), (13, .iload_n 3, 1, (0, 0, [], 0, 0)), (14, .ldc 200, 2, (0, 0, [], 2147483639, 0)), (16, .if_icmp .gt 5, 3, (21, 0, [], 0, 0)), (19, .iload_n 3, 1, (0, 0, [], 0, 0)), (20, .ireturn, 1, (0, 0, [], 0, 0)), (21, .iload_n 0, 1, (0, 0, [], 0, 0)), (22, .iload_n 1, 1, (0, 0, [], 0, 0)), (26, .ireturn, 1, (0, 0, [], 0, 0))]
def p_tb129 : am_T := [(0, .iload_n 0, 1, (0, 0, [], 0, 0)), (1, .ifCond .lt 8, 3, (9, 0, [], 0, 0)), (4, .iload_n 0, 1, (0, 0, [], 0, 0)), (5, .iload_n 1, 1, (0, 0, [], 0, 0)), (6, .if_icmp .lt 10, 3, (16, 0, [], 0, 0)), (9, .aload_n 2, 1, (0, 0, [], 0, 0)), (10, .iload_n 0, 1, (0, 0, [], 0, 0)), (11, .iload_n 1, 1, (0, 0, [], 0, 0)), (16, .iload_n 0, 1, (0, 0, [], 0, 0)), (17, .ireturn, 1, (0, 0, [], 0, 0))]
def p_tb130 : am_T := [(0, .new 7, 3, (8, 0, [], 0, 0)), (3, .dup, 1, (0, 0, [], 0, 0)), (4, .invokespecial 9, 3, (32, 0, [], 2, 59)), (7, .astore_n 1, 1, (0, 0, [], 0, 0)), (8, .new 10, 3, (9, 0, [], 0, 0)), (11, .dup, 1, (0, 0, [], 0, 0)), (12, .invokespecial 12, 3, (71, 0, [], 2, 680)), (15, .astore_n 2, 1, (0, 0, [], 0, 0)), (16, .iconst 0, 1, (0, 0, [], 0, 0)), (17, .istore_n 3, 1, (0, 0, [], 0, 0)), (18, .iload_n 3, 1, (0, 0, [], 0, 0)), (19, .aload_n 0, 1, (0, 0, [], 0, 0)), (20, .arraylength, 1, (0, 0, [], 0, 0)), (21, .iconst 4, 1, (0, 0, [], 0, 0)), (22, .isub, 1, (0, 0, [], 0, 0)), (23, .if_icmp .gt 673, 3, (696, 0, [], 0, 0)), (26, .aload_n 0, 1, (0, 0, [], 0, 0)), (27, .iload_n 3, 1, (0, 0, [], 0, 0)), (28, .iaload, 1, (0, 0, [], 0, 0)), (29, .bipush 31, 2, (0, 0, [], 0, 0)), (31, .iand, 1, (0, 0, [], 0, 0)), (32, .tableswitch 658 0 19 #[96, 119, 162, 185, 208, 221, 244, 267, 300, 323, 336, 369, 412, 456, 500, 523, 556, 589, 622, 645], 96, (690, 0, [(0, 128), (1, 151), (2, 194), (3, 217), (4, 240), (5, 253), (6, 276), (7, 299), (8, 332), (9, 355), (10, 368), (11, 401), (12, 444), (13, 488), (14, 532), (15, 555), (16, 588), (17, 621), (18, 654), (19, 677)], 0, 0)), (128, .aload_n 1, 1, (0, 0, [], 0, 0)), (129, .aload_n 0, 1, (0, 0, [], 0, 0)), (130, .iload_n 3, 1, (0, 0, [], 0, 0)), (131, .iconst 1, 1, (0, 0, [], 0, 0)), (132, .iadd, 1, (0, 0, [], 0, 0)), (133, .iaload, 1, (0, 0, [], 0, 0)), (134, .invokevirtual 13, 3, (33, 1, [(8, 0)], 4, 159)), (137, .aload_n 2, 1, (0, 0, [], 0, 0)), (138, .aload_n 0, 1, (0, 0, [], 0, 0)), (139, .iload_n 3, 1, (0, 0, [], 0, 0)), (140, .iconst 1, 1, (0, 0, [], 0, 0)), (141, .iadd, 1, (0, 0, [], 0, 0)), (142, .iaload, 1, (0, 0, [], 0, 0)), (143, .invokevirtual 17, 3, (82, 1, [(9, 0)], 4, 787)), (146, .if_icmp .eq 544, 3, (690, 0, [], 0, 0)), (149, .iconst 0, 1, (0, 0, [], 0, 0)), (150, .ireturn, 1, (0, 0, [], 0, 0)), (151, .aload_n 1, 1, (0, 0, [], 0, 0)), (152, .aload_n 0, 1, (0, 0, [], 0, 0)), (153, .iload_n 3, 1, (0, 0, [], 0, 0)), (154, .iconst 1, 1, (0, 0, [], 0, 0)), (155, .iadd, 1, (0, 0, [], 0, 0)), (156, .iaload, 1, (0, 0, [], 0, 0)), (157, .aload_n 0, 1, (0, 0, [], 0, 0)), (158, .iload_n 3, 1, (0, 0, [], 0, 0)), (159, .iconst 2, 1, (0, 0, [], 0, 0)), (160, .iadd, 1, (0, 0, [], 0, 0)), (161, .iaload, 1, (0, 0, [], 0, 0)), (162, .aload_n 0, 1, (0, 0, [], 0, 0)), (163, .iload_n 3, 1, (0, 0, [], 0, 0)), (164, .iconst 3, 1, (0, 0, [], 0, 0)), (165, .iadd, 1, (0, 0, [], 0, 0)), (166, .iaload, 1, (0, 0, [], 0, 0)), (167, .invokevirtual 18, 3, (34, 3, [(8, 0)], 4, 308)), (170, .aload_n 2, 1, (0, 0, [], 0, 0)), (171, .aload_n 0, 1, (0, 0, [], 0, 0)), (172, .iload_n 3, 1, (0, 0, [], 0, 0)), (173, .iconst 1, 1, (0, 0, [], 0, 0)), (174, .iadd, 1, (0, 0, [], 0, 0)), (175, .iaload, 1, (0, 0, [], 0, 0)), (176, .aload_n 0, 1, (0, 0, [], 0, 0)), (177, .iload_n 3, 1, (0, 0, [], 0, 0)), (178, .iconst 2, 1, (0, 0, [], 0, 0)), (179, .iadd, 1, (0, 0, [], 0, 0)), (180, .iaload, 1, (0, 0, [], 0, 0)), (181, .aload_n 0, 1, (0, 0, [], 0, 0)), (182, .iload_n 3, 1, (0, 0, [], 0, 0)), (183, .iconst 3, 1, (0, 0, [], 0, 0)), (184, .iadd, 1, (0, 0, [], 0, 0)), (185, .iaload, 1, (0, 0, [], 0, 0)), (186, .invokevirtual 22, 3, (83, 3, [(9, 0)], 4, 794)), (189, .if_icmp .eq 501, 3, (690, 0, [], 0, 0)), (192, .iconst 0, 1, (0, 0, [], 0, 0)), (193, .ireturn, 1, (0, 0, [], 0, 0)), (194, .aload_n 1, 1, (0, 0, [], 0, 0)), (195, .aload_n 0, 1, (0, 0, [], 0, 0)), (196, .iload_n 3, 1, (0, 0, [], 0, 0)), (197, .iconst 1, 1, (0, 0, [], 0, 0)), (198, .iadd, 1, (0, 0, [], 0, 0)), (199, .iaload, 1, (0, 0, [], 0, 0)), (200, .invokevirtual 23, 3, (35, 1, [(8, 0)], 4, 337)), (203, .aload_n 2, 1, (0, 0, [], 0, 0)), (204, .aload_n 0, 1, (0, 0, [], 0, 0)), (205, .iload_n 3, 1, (0, 0, [], 0, 0)), (206, .iconst 1, 1, (0, 0, [], 0, 0)), (207, .iadd, 1, (0, 0, [], 0, 0)), (208, .iaload, 1, (0, 0, [], 0, 0)), (209, .invokevirtual 26, 3, (87, 1, [(9, 0)], 4, 802)), (212, .if_icmp .eq 478, 3, (690, 0, [], 0, 0)), (215, .iconst 0, 1, (0, 0, [], 0, 0)), (216, .ireturn, 1, (0, 0, [], 0, 0)), (217, .aload_n 1, 1, (0, 0, [], 0, 0)), (218, .aload_n 0, 1, (0, 0, [], 0, 0)), (219, .iload_n 3, 1, (0, 0, [], 0, 0)), (220, .iconst 1, 1, (0, 0, [], 0, 0)), (221, .iadd, 1, (0, 0, [], 0, 0)), (222, .iaload, 1, (0, 0, [], 0, 0)), (223, .invokevirtual 27, 3, (36, 1, [(8, 0)], 4, 463)), (226, .aload_n 2, 1, (0, 0, [], 0, 0)), (227, .aload_n 0, 1, (0, 0, [], 0, 0)), (228, .iload_n 3, 1, (0, 0, [], 0, 0)), (229, .iconst 1, 1, (0, 0, [], 0, 0)), (230, .iadd, 1, (0, 0, [], 0, 0)), (231, .iaload, 1, (0, 0, [], 0, 0)), (232, .invokevirtual 30, 3, (88, 1, [(9, 0)], 4, 834)), (235, .if_icmp .eq 455, 3, (690, 0, [], 0, 0)), (238, .iconst 0, 1, (0, 0, [], 0, 0)), (239, .ireturn, 1, (0, 0, [], 0, 0)), (240, .aload_n 1, 1, (0, 0, [], 0, 0)), (241, .invokevirtual 31, 3, (37, 0, [(8, 0)], 4, 526)), (244, .aload_n 2, 1, (0, 0, [], 0, 0)), (245, .invokevirtual 35, 3, (89, 0, [(9, 0)], 4, 862)), (248, .if_icmp .eq 442, 3, (690, 0, [], 0, 0)), (251, .iconst 0, 1, (0, 0, [], 0, 0)), (252, .ireturn, 1, (0, 0, [], 0, 0)), (253, .aload_n 1, 1, (0, 0, [], 0, 0)), (254, .aload_n 0, 1, (0, 0, [], 0, 0)), (255, .iload_n 3, 1, (0, 0, [], 0, 0)), (256, .iconst 1, 1, (0, 0, [], 0, 0)), (257, .iadd, 1, (0, 0, [], 0, 0)), (258, .iaload, 1, (0, 0, [], 0, 0)), (259, .invokevirtual 36, 3, (38, 1, [(8, 0)], 4, 530)), (262, .aload_n 2, 1, (0, 0, [], 0, 0)), (263, .aload_n 0, 1, (0, 0, [], 0, 0)), (264, .iload_n 3, 1, (0, 0, [], 0, 0)), (265, .iconst 1, 1, (0, 0, [], 0, 0)), (266, .iadd, 1, (0, 0, [], 0, 0)), (267, .iaload, 1, (0, 0, [], 0, 0)), (268, .invokevirtual 39, 3, (95, 1, [(9, 0)], 4, 866)), (271, .if_icmp .eq 419, 3, (690, 0, [], 0, 0)), (274, .iconst 0, 1, (0, 0, [], 0, 0)), (275, .ireturn, 1, (0, 0, [], 0, 0)), (276, .aload_n 1, 1, (0, 0, [], 0, 0)), (277, .aload_n 0, 1, (0, 0, [], 0, 0)), (278, .iload_n 3, 1, (0, 0, [], 0, 0)), (279, .iconst 1, 1, (0, 0, [], 0, 0)), (280, .iadd, 1, (0, 0, [], 0, 0)), (281, .iaload, 1, (0, 0, [], 0, 0)), (282, .invokevirtual 40, 3, (39, 1, [(8, 0)], 4, 546)), (285, .aload_n 2, 1, (0, 0, [], 0, 0)), (286, .aload_n 0, 1, (0, 0, [], 0, 0)), (287, .iload_n 3, 1, (0, 0, [], 0, 0)), (288, .iconst 1, 1, (0, 0, [], 0, 0)), (289, .iadd, 1, (0, 0, [], 0, 0)), (290, .iaload, 1, (0, 0, [], 0, 0)), (291, .invokevirtual 43, 3, (96, 1, [(9, 0)], 4, 878)), (294, .if_icmp .eq 396, 3, (690, 0, [], 0, 0)), (297, .iconst 0, 1, (0, 0, [], 0, 0)), (298, .ireturn, 1, (0, 0, [], 0, 0)), (299, .aload_n 1, 1, (0, 0, [], 0, 0)), (300, .aload_n 0, 1, (0, 0, [], 0, 0)), (301, .iload_n 3, 1, (0, 0, [], 0, 0)), (302, .iconst 1, 1, (0, 0, [], 0, 0)), (303, .iadd, 1, (0, 0, [], 0, 0)), (304, .iaload, 1, (0, 0, [], 0, 0)), (305, .aload_n 0, 1, (0, 0, [], 0, 0)), (306, .iload_n 3, 1, (0, 0, [], 0, 0)), (307, .iconst 2, 1, (0, 0, [], 0, 0)), (308, .iadd, 1, (0, 0, [], 0, 0)), (309, .iaload, 1, (0, 0, [], 0, 0)), (310, .invokevirtual 44, 3, (40, 2, [(8, 0)], 4, 550)), (313, .aload_n 2, 1, (0, 0, [], 0, 0)), (314, .aload_n 0, 1, (0, 0, [], 0, 0)), (315, .iload_n 3, 1, (0, 0, [], 0, 0)), (316, .iconst 1, 1, (0, 0, [], 0, 0)), (317, .iadd, 1, (0, 0, [], 0, 0)), (318, .iaload, 1, (0, 0, [], 0, 0)), (319, .aload_n 0, 1, (0, 0, [], 0, 0)), (320, .iload_n 3, 1, (0, 0, [], 0, 0)), (321, .iconst 2, 1, (0, 0, [], 0, 0)), (322, .iadd, 1, (0, 0, [], 0, 0)), (323, .iaload, 1, (0, 0, [], 0, 0)), (324, .invokevirtual 48, 3, (97, 2, [(9, 0)], 4, 882)), (327, .if_icmp .eq 363, 3, (690, 0, [], 0, 0)), (330, .iconst 0, 1, (0, 0, [], 0, 0)), (331, .ireturn, 1, (0, 0, [], 0, 0)), (332, .aload_n 1, 1, (0, 0, [], 0, 0)), (333, .aload_n 0, 1, (0, 0, [], 0, 0)), (334, .iload_n 3, 1, (0, 0, [], 0, 0)), (335, .iconst 1, 1, (0, 0, [], 0, 0)), (336, .iadd, 1, (0, 0, [], 0, 0)), (337, .iaload, 1, (0, 0, [], 0, 0)), (338, .invokevirtual 49, 3, (41, 1, [(8, 0)], 4, 554)), (341, .aload_n 2, 1, (0, 0, [], 0, 0)), (342, .aload_n 0, 1, (0, 0, [], 0, 0)), (343, .iload_n 3, 1, (0, 0, [], 0, 0)), (344, .iconst 1, 1, (0, 0, [], 0, 0)), (345, .iadd, 1, (0, 0, [], 0, 0)), (346, .iaload, 1, (0, 0, [], 0, 0)), (347, .invokevirtual 52, 3, (98, 1, [(9, 0)], 4, 886)), (350, .if_icmp .eq 340, 3, (690, 0, [], 0, 0)), (353, .iconst 0, 1, (0, 0, [], 0, 0)), (354, .ireturn, 1, (0, 0, [], 0, 0)), (355, .aload_n 1, 1, (0, 0, [], 0, 0)), (356, .invokevirtual 53, 3, (42, 0, [(8, 0)], 4, 558)), (359, .aload_n 2, 1, (0, 0, [], 0, 0)), (360, .invokevirtual 56, 3, (99, 0, [(9, 0)], 4, 890)), (363, .if_icmp .eq 327, 3, (690, 0, [], 0, 0)), (366, .iconst 0, 1, (0, 0, [], 0, 0)), (367, .ireturn, 1, (0, 0, [], 0, 0)), (368, .aload_n 1, 1, (0, 0, [], 0, 0)), (369, .aload_n 0, 1, (0, 0, [], 0, 0)), (370, .iload_n 3, 1, (0, 0, [], 0, 0)), (371, .iconst 1, 1, (0, 0, [], 0, 0)), (372, .iadd, 1, (0, 0, [], 0, 0)), (373, .iaload, 1, (0, 0, [], 0, 0)), (374, .aload_n 0, 1, (0, 0, [], 0, 0)), (375, .iload_n 3, 1, (0, 0, [], 0, 0)), (376, .iconst 2, 1, (0, 0, [], 0, 0)), (377, .iadd, 1, (0, 0, [], 0, 0)), (378, .iaload, 1, (0, 0, [], 0, 0)), (379, .invokevirtual 57, 3, (43, 2, [(8, 0)], 4, 562)), (382, .aload_n 2, 1, (0, 0, [], 0, 0)), (383, .aload_n 0, 1, (0, 0, [], 0, 0)), (384, .iload_n 3, 1, (0, 0, [], 0, 0)), (385, .iconst 1, 1, (0, 0, [], 0, 0)), (386, .iadd, 1, (0, 0, [], 0, 0)), (387, .iaload, 1, (0, 0, [], 0, 0)), (388, .aload_n 0, 1, (0, 0, [], 0, 0)), (389, .iload_n 3, 1, (0, 0, [], 0, 0)), (390, .iconst 2, 1, (0, 0, [], 0, 0)), (391, .iadd, 1, (0, 0, [], 0, 0)), (392, .iaload, 1, (0, 0, [], 0, 0)), (393, .invokevirtual 60, 3, (100, 2, [(9, 0)], 4, 894)), (396, .if_icmp .eq 294, 3, (690, 0, [], 0, 0)), (399, .iconst 0, 1, (0, 0, [], 0, 0)), (400, .ireturn, 1, (0, 0, [], 0, 0)), (401, .aload_n 1, 1, (0, 0, [], 0, 0)), (402, .aload_n 0, 1, (0, 0, [], 0, 0)), (403, .iload_n 3, 1, (0, 0, [], 0, 0)), (404, .iconst 1, 1, (0, 0, [], 0, 0)), (405, .iadd, 1, (0, 0, [], 0, 0)), (406, .iaload, 1, (0, 0, [], 0, 0)), (407, .aload_n 0, 1, (0, 0, [], 0, 0)), (408, .iload_n 3, 1, (0, 0, [], 0, 0)), (409, .iconst 2, 1, (0, 0, [], 0, 0)), (410, .iadd, 1, (0, 0, [], 0, 0)), (411, .iaload, 1, (0, 0, [], 0, 0)), (412, .aload_n 0, 1, (0, 0, [], 0, 0)), (413, .iload_n 3, 1, (0, 0, [], 0, 0)), (414, .iconst 3, 1, (0, 0, [], 0, 0)), (415, .iadd, 1, (0, 0, [], 0, 0)), (416, .iaload, 1, (0, 0, [], 0, 0)), (417, .invokevirtual 61, 3, (44, 3, [(8, 0)], 4, 574)), (420, .aload_n 2, 1, (0, 0, [], 0, 0)), (421, .aload_n 0, 1, (0, 0, [], 0, 0)), (422, .iload_n 3, 1, (0, 0, [], 0, 0)), (423, .iconst 1, 1, (0, 0, [], 0, 0)), (424, .iadd, 1, (0, 0, [], 0, 0)), (425, .iaload, 1, (0, 0, [], 0, 0)), (426, .aload_n 0, 1, (0, 0, [], 0, 0)), (427, .iload_n 3, 1, (0, 0, [], 0, 0)), (428, .iconst 2, 1, (0, 0, [], 0, 0)), (429, .iadd, 1, (0, 0, [], 0, 0)), (430, .iaload, 1, (0, 0, [], 0, 0)), (431, .aload_n 0, 1, (0, 0, [], 0, 0)), (432, .iload_n 3, 1, (0, 0, [], 0, 0)), (433, .iconst 3, 1, (0, 0, [], 0, 0)), (434, .iadd, 1, (0, 0, [], 0, 0)), (435, .iaload, 1, (0, 0, [], 0, 0)), (436, .invokevirtual 64, 3, (101, 3, [(9, 0)], 4, 898)), (439, .if_icmp .eq 251, 3, (690, 0, [], 0, 0)), (442, .iconst 0, 1, (0, 0, [], 0, 0)), (443, .ireturn, 1, (0, 0, [], 0, 0)), (444, .aload_n 1, 1, (0, 0, [], 0, 0)), (445, .aload_n 0, 1, (0, 0, [], 0, 0)), (446, .iload_n 3, 1, (0, 0, [], 0, 0)), (447, .iconst 1, 1, (0, 0, [], 0, 0)), (448, .iadd, 1, (0, 0, [], 0, 0)), (449, .iaload, 1, (0, 0, [], 0, 0)), (450, .aload_n 0, 1, (0, 0, [], 0, 0)), (451, .iload_n 3, 1, (0, 0, [], 0, 0)), (452, .iconst 2, 1, (0, 0, [], 0, 0)), (453, .iadd, 1, (0, 0, [], 0, 0)), (454, .iaload, 1, (0, 0, [], 0, 0)), (455, .aload_n 0, 1, (0, 0, [], 0, 0)), (456, .iload_n 3, 1, (0, 0, [], 0, 0)), (457, .iconst 3, 1, (0, 0, [], 0, 0)), (458, .iadd, 1, (0, 0, [], 0, 0)), (459, .iaload, 1, (0, 0, [], 0, 0)), (460, .invokevirtual 65, 3, (45, 3, [(8, 0)], 4, 582)), (463, .aload_n 2, 1, (0, 0, [], 0, 0)), (464, .aload_n 0, 1, (0, 0, [], 0, 0)), (465, .iload_n 3, 1, (0, 0, [], 0, 0)), (466, .iconst 1, 1, (0, 0, [], 0, 0)), (467, .iadd, 1, (0, 0, [], 0, 0)), (468, .iaload, 1, (0, 0, [], 0, 0)), (469, .aload_n 0, 1, (0, 0, [], 0, 0)), (470, .iload_n 3, 1, (0, 0, [], 0, 0)), (471, .iconst 2, 1, (0, 0, [], 0, 0)), (472, .iadd, 1, (0, 0, [], 0, 0)), (473, .iaload, 1, (0, 0, [], 0, 0)), (474, .aload_n 0, 1, (0, 0, [], 0, 0)), (475, .iload_n 3, 1, (0, 0, [], 0, 0)), (476, .iconst 3, 1, (0, 0, [], 0, 0)), (477, .iadd, 1, (0, 0, [], 0, 0)), (478, .iaload, 1, (0, 0, [], 0, 0)), (479, .invokevirtual 69, 3, (102, 3, [(9, 0)], 4, 902)), (482, .lcmp, 1, (0, 0, [], 0, 0)), (483, .ifCond .eq 207, 3, (690, 0, [], 0, 0)), (486, .iconst 0, 1, (0, 0, [], 0, 0)), (487, .ireturn, 1, (0, 0, [], 0, 0)), (488, .aload_n 1, 1, (0, 0, [], 0, 0)), (489, .aload_n 0, 1, (0, 0, [], 0, 0)), (490, .iload_n 3, 1, (0, 0, [], 0, 0)), (491, .iconst 1, 1, (0, 0, [], 0, 0)), (492, .iadd, 1, (0, 0, [], 0, 0)), (493, .iaload, 1, (0, 0, [], 0, 0)), (494, .aload_n 0, 1, (0, 0, [], 0, 0)), (495, .iload_n 3, 1, (0, 0, [], 0, 0)), (496, .iconst 2, 1, (0, 0, [], 0, 0)), (497, .iadd, 1, (0, 0, [], 0, 0)), (498, .iaload, 1, (0, 0, [], 0, 0)), (499, .aload_n 0, 1, (0, 0, [], 0, 0)), (500, .iload_n 3, 1, (0, 0, [], 0, 0)), (501, .iconst 3, 1, (0, 0, [], 0, 0)), (502, .iadd, 1, (0, 0, [], 0, 0)), (503, .iaload, 1, (0, 0, [], 0, 0)), (504, .invokevirtual 70, 3, (46, 3, [(8, 0)], 4, 592)), (507, .aload_n 2, 1, (0, 0, [], 0, 0)), (508, .aload_n 0, 1, (0, 0, [], 0, 0)), (509, .iload_n 3, 1, (0, 0, [], 0, 0)), (510, .iconst 1, 1, (0, 0, [], 0, 0)), (511, .iadd, 1, (0, 0, [], 0, 0)), (512, .iaload, 1, (0, 0, [], 0, 0)), (513, .aload_n 0, 1, (0, 0, [], 0, 0)), (514, .iload_n 3, 1, (0, 0, [], 0, 0)), (515, .iconst 2, 1, (0, 0, [], 0, 0)), (516, .iadd, 1, (0, 0, [], 0, 0)), (517, .iaload, 1, (0, 0, [], 0, 0)), (518, .aload_n 0, 1, (0, 0, [], 0, 0)), (519, .iload_n 3, 1, (0, 0, [], 0, 0)), (520, .iconst 3, 1, (0, 0, [], 0, 0)), (521, .iadd, 1, (0, 0, [], 0, 0)), (522, .iaload, 1, (0, 0, [], 0, 0)), (523, .invokevirtual 73, 3, (103, 3, [(9, 0)], 4, 907)), (526, .lcmp, 1, (0, 0, [], 0, 0)), (527, .ifCond .eq 163, 3, (690, 0, [], 0, 0)), (530, .iconst 0, 1, (0, 0, [], 0, 0)), (531, .ireturn, 1, (0, 0, [], 0, 0)), (532, .aload_n 1, 1, (0, 0, [], 0, 0)), (533, .aload_n 0, 1, (0, 0, [], 0, 0)), (534, .iload_n 3, 1, (0, 0, [], 0, 0)), (535, .iconst 1, 1, (0, 0, [], 0, 0)), (536, .iadd, 1, (0, 0, [], 0, 0)), (537, .iaload, 1, (0, 0, [], 0, 0)), (538, .invokevirtual 74, 3, (47, 1, [(8, 0)], 4, 597)), (541, .aload_n 2, 1, (0, 0, [], 0, 0)), (542, .aload_n 0, 1, (0, 0, [], 0, 0)), (543, .iload_n 3, 1, (0, 0, [], 0, 0)), (544, .iconst 1, 1, (0, 0, [], 0, 0)), (545, .iadd, 1, (0, 0, [], 0, 0)), (546, .iaload, 1, (0, 0, [], 0, 0)), (547, .invokevirtual 77, 3, (104, 1, [(9, 0)], 4, 911)), (550, .if_icmp .eq 140, 3, (690, 0, [], 0, 0)), (553, .iconst 0, 1, (0, 0, [], 0, 0)), (554, .ireturn, 1, (0, 0, [], 0, 0)), (555, .aload_n 1, 1, (0, 0, [], 0, 0)), (556, .aload_n 0, 1, (0, 0, [], 0, 0)), (557, .iload_n 3, 1, (0, 0, [], 0, 0)), (558, .iconst 1, 1, (0, 0, [], 0, 0)), (559, .iadd, 1, (0, 0, [], 0, 0)), (560, .iaload, 1, (0, 0, [], 0, 0)), (561, .aload_n 0, 1, (0, 0, [], 0, 0)), (562, .iload_n 3, 1, (0, 0, [], 0, 0)), (563, .iconst 2, 1, (0, 0, [], 0, 0)), (564, .iadd, 1, (0, 0, [], 0, 0)), (565, .iaload, 1, (0, 0, [], 0, 0)), (566, .invokevirtual 78, 3, (48, 2, [(8, 0)], 4, 619)), (569, .aload_n 2, 1, (0, 0, [], 0, 0)), (570, .aload_n 0, 1, (0, 0, [], 0, 0)), (571, .iload_n 3, 1, (0, 0, [], 0, 0)), (572, .iconst 1, 1, (0, 0, [], 0, 0)), (573, .iadd, 1, (0, 0, [], 0, 0)), (574, .iaload, 1, (0, 0, [], 0, 0)), (575, .aload_n 0, 1, (0, 0, [], 0, 0)), (576, .iload_n 3, 1, (0, 0, [], 0, 0)), (577, .iconst 2, 1, (0, 0, [], 0, 0)), (578, .iadd, 1, (0, 0, [], 0, 0)), (579, .iaload, 1, (0, 0, [], 0, 0)), (580, .invokevirtual 81, 3, (105, 2, [(9, 0)], 4, 915)), (583, .if_icmp .eq 107, 3, (690, 0, [], 0, 0)), (586, .iconst 0, 1, (0, 0, [], 0, 0)), (587, .ireturn, 1, (0, 0, [], 0, 0)), (588, .aload_n 1, 1, (0, 0, [], 0, 0)), (589, .aload_n 0, 1, (0, 0, [], 0, 0)), (590, .iload_n 3, 1, (0, 0, [], 0, 0)), (591, .iconst 1, 1, (0, 0, [], 0, 0)), (592, .iadd, 1, (0, 0, [], 0, 0)), (593, .iaload, 1, (0, 0, [], 0, 0)), (594, .aload_n 0, 1, (0, 0, [], 0, 0)), (595, .iload_n 3, 1, (0, 0, [], 0, 0)), (596, .iconst 2, 1, (0, 0, [], 0, 0)), (597, .iadd, 1, (0, 0, [], 0, 0)), (598, .iaload, 1, (0, 0, [], 0, 0)), (599, .invokevirtual 82, 3, (49, 2, [(8, 0)], 4, 634)), (602, .aload_n 2, 1, (0, 0, [], 0, 0)), (603, .aload_n 0, 1, (0, 0, [], 0, 0)), (604, .iload_n 3, 1, (0, 0, [], 0, 0)), (605, .iconst 1, 1, (0, 0, [], 0, 0)), (606, .iadd, 1, (0, 0, [], 0, 0)), (607, .iaload, 1, (0, 0, [], 0, 0)), (608, .aload_n 0, 1, (0, 0, [], 0, 0)), (609, .iload_n 3, 1, (0, 0, [], 0, 0)), (610, .iconst 2, 1, (0, 0, [], 0, 0)), (611, .iadd, 1, (0, 0, [], 0, 0)), (612, .iaload, 1, (0, 0, [], 0, 0)), (613, .invokevirtual 85, 3, (106, 2, [(9, 0)], 4, 922)), (616, .if_icmp .eq 74, 3, (690, 0, [], 0, 0)), (619, .iconst 0, 1, (0, 0, [], 0, 0)), (620, .ireturn, 1, (0, 0, [], 0, 0)), (621, .aload_n 1, 1, (0, 0, [], 0, 0)), (622, .aload_n 0, 1, (0, 0, [], 0, 0)), (623, .iload_n 3, 1, (0, 0, [], 0, 0)), (624, .iconst 1, 1, (0, 0, [], 0, 0)), (625, .iadd, 1, (0, 0, [], 0, 0)), (626, .iaload, 1, (0, 0, [], 0, 0)), (627, .aload_n 0, 1, (0, 0, [], 0, 0)), (628, .iload_n 3, 1, (0, 0, [], 0, 0)), (629, .iconst 2, 1, (0, 0, [], 0, 0)), (630, .iadd, 1, (0, 0, [], 0, 0)), (631, .iaload, 1, (0, 0, [], 0, 0)), (632, .invokevirtual 86, 3, (50, 2, [(8, 0)], 4, 638)), (635, .aload_n 2, 1, (0, 0, [], 0, 0)), (636, .aload_n 0, 1, (0, 0, [], 0, 0)), (637, .iload_n 3, 1, (0, 0, [], 0, 0)), (638, .iconst 1, 1, (0, 0, [], 0, 0)), (639, .iadd, 1, (0, 0, [], 0, 0)), (640, .iaload, 1, (0, 0, [], 0, 0)), (641, .aload_n 0, 1, (0, 0, [], 0, 0)), (642, .iload_n 3, 1, (0, 0, [], 0, 0)), (643, .iconst 2, 1, (0, 0, [], 0, 0)), (644, .iadd, 1, (0, 0, [], 0, 0)), (645, .iaload, 1, (0, 0, [], 0, 0)), (646, .invokevirtual 89, 3, (107, 2, [(9, 0)], 4, 926)), (649, .if_icmp .eq 41, 3, (690, 0, [], 0, 0)), (652, .iconst 0, 1, (0, 0, [], 0, 0)), (653, .ireturn, 1, (0, 0, [], 0, 0)), (654, .aload_n 1, 1, (0, 0, [], 0, 0)), (655, .aload_n 0, 1, (0, 0, [], 0, 0)), (656, .iload_n 3, 1, (0, 0, [], 0, 0)), (657, .iconst 1, 1, (0, 0, [], 0, 0)), (658, .iadd, 1, (0, 0, [], 0, 0)), (659, .iaload, 1, (0, 0, [], 0, 0)), (660, .invokevirtual 90, 3, (51, 1, [(8, 0)], 4, 645)), (663, .aload_n 2, 1, (0, 0, [], 0, 0)), (664, .aload_n 0, 1, (0, 0, [], 0, 0)), (665, .iload_n 3, 1, (0, 0, [], 0, 0)), (666, .iconst 1, 1, (0, 0, [], 0, 0)), (667, .iadd, 1, (0, 0, [], 0, 0)), (668, .iaload, 1, (0, 0, [], 0, 0)), (669, .invokevirtual 93, 3, (108, 1, [(9, 0)], 4, 930)), (672, .if_icmp .eq 18, 3, (690, 0, [], 0, 0)), (675, .iconst 0, 1, (0, 0, [], 0, 0)), (676, .ireturn, 1, (0, 0, [], 0, 0)), (677, .aload_n 1, 1, (0, 0, [], 0, 0)), (678, .invokevirtual 94, 3, (52, 0, [(8, 0)], 4, 649)), (681, .aload_n 2, 1, (0, 0, [], 0, 0)), (682, .invokevirtual 97, 3, (109, 0, [(9, 0)], 4, 934)), (685, .if_icmp .eq 5, 3, (690, 0, [], 0, 0)), (688, .iconst 0, 1, (0, 0, [], 0, 0)), (689, .ireturn, 1, (0, 0, [], 0, 0)), (690, .iinc 3 4, 3, (0, 0, [], 0, 0)), (693, .goto (-675), 3, (18, 0, [], 0, 0)), (696, .iconst 1, 1, (0, 0, [], 0, 0)), (697, .ireturn, 1, (0, 0, [], 0, 0))]
def p_tbs : List am_T := [p_tb0, p_tb1, p_tb2, p_tb3, p_tb4, p_tb5, p_tb6, p_tb7, p_tb8, p_tb9, p_tb10, p_tb11, p_tb12, p_tb13, p_tb14, p_tb15, p_tb16, p_tb17, p_tb18, p_tb19, p_tb20, p_tb21, p_tb22, p_tb23, p_tb24, p_tb25, p_tb26, p_tb27, p_tb28, p_tb29, p_tb30, p_tb31, p_tb32, p_tb33, p_tb34, p_tb35, p_tb36, p_tb37, p_tb38, p_tb39, p_tb40, p_tb41, p_tb42, p_tb43, p_tb44, p_tb45, p_tb46, p_tb47, p_tb48, p_tb49, p_tb50, p_tb51, p_tb52, p_tb53, p_tb54, p_tb55, p_tb56, p_tb57, p_tb58, p_tb59, p_tb60, p_tb61, p_tb62, p_tb63, p_tb64, p_tb65, p_tb66, p_tb67, p_tb68, p_tb69, p_tb70, p_tb71, p_tb72, p_tb73, p_tb74, p_tb75, p_tb76, p_tb77, p_tb78, p_tb79, p_tb80, p_tb81, p_tb82, p_tb83, p_tb84, p_tb85, p_tb86, p_tb87, p_tb88, p_tb89, p_tb90, p_tb91, p_tb92, p_tb93, p_tb94, p_tb95, p_tb96, p_tb97, p_tb98, p_tb99, p_tb100, p_tb101, p_tb102, p_tb103, p_tb104, p_tb105, p_tb106, p_tb107, p_tb108, p_tb109, p_tb110, p_tb111, p_tb112, p_tb113, p_tb114, p_tb115, p_tb116, p_tb117, p_tb118, p_tb119, p_tb120, p_tb121, p_tb122, p_tb123, p_tb124, p_tb125, p_tb126, p_tb127, p_tb128, p_tb129, p_tb130]
def p_at (mi pc : Nat) : Option (Instr × Nat × am_X) := match p_tbs[mi]? with
  | some t => t.lookup pc
  | none => none
def p_y0 : MethodName := ⟨"TwoStepOutputs$Barriers", "<init>", "()V"⟩
def p_y1 : MethodName := ⟨"TwoStepOutputs$Barriers", "add", "(I)V"⟩
def p_y2 : MethodName := ⟨"TwoStepOutputs$Barriers", "has", "(I)Z"⟩
def p_y3 : MethodName := ⟨"TwoStepOutputs$Barriers", "greatest", "()I"⟩
def p_y4 : MethodName := ⟨"TwoStepOutputs$Barriers", "dropFrom", "(I)V"⟩
def p_y5 : MethodName := ⟨"TwoStepOutputs$Disk", "<init>", "()V"⟩
def p_y6 : MethodName := ⟨"TwoStepOutputs$Disk", "add", "(IIIII)V"⟩
def p_y7 : MethodName := ⟨"TwoStepOutputs$Lines", "<init>", "()V"⟩
def p_y8 : MethodName := ⟨"TwoStepOutputs$Lines", "take", "(IIII)Z"⟩
def p_y9 : MethodName := ⟨"TwoStepOutputs$Lines", "isThere", "(II)Z"⟩
def p_y10 : MethodName := ⟨"TwoStepOutputs$Output", "<init>", "(II)V"⟩
def p_y11 : MethodName := ⟨"TwoStepOutputs$Output", "takeRow", "(II)Z"⟩
def p_y12 : MethodName := ⟨"TwoStepOutputs$Output", "partAt", "(I)LTwoStepOutputs$Part;"⟩
def p_y13 : MethodName := ⟨"TwoStepOutputs$Output", "waitingParts", "()I"⟩
def p_y14 : MethodName := ⟨"TwoStepOutputs$Output", "tryFails", "()Z"⟩
def p_y15 : MethodName := ⟨"TwoStepOutputs$Output", "showsOnlyMarksUpTo", "(I)Z"⟩
def p_y16 : MethodName := ⟨"TwoStepOutputs$Output", "isClosedUpTo", "(II)Z"⟩
def p_y17 : MethodName := ⟨"TwoStepOutputs$Output", "showsNoLineTwice", "()Z"⟩
def p_y18 : MethodName := ⟨"TwoStepOutputs$Output", "showsPartsWhole", "()Z"⟩
def p_y19 : MethodName := ⟨"TwoStepOutputs$Output", "showsLatestOfKeys", "(LTwoStepOutputs$Disk;)Z"⟩
def p_y20 : MethodName := ⟨"TwoStepOutputs$Part", "<init>", "(II)V"⟩
def p_y21 : MethodName := ⟨"TwoStepOutputs$Reader", "<init>", "(LTwoStepOutputs$Lines;)V"⟩
def p_y22 : MethodName := ⟨"TwoStepOutputs$Reader", "goOn", "(I)I"⟩
def p_y23 : MethodName := ⟨"TwoStepOutputs$Rows", "<init>", "(I)V"⟩
def p_y24 : MethodName := ⟨"TwoStepOutputs$Rows", "count", "()I"⟩
def p_y25 : MethodName := ⟨"TwoStepOutputs$Rows", "has", "(II)Z"⟩
def p_y26 : MethodName := ⟨"TwoStepOutputs$Rows", "cell", "(II)I"⟩
def p_y27 : MethodName := ⟨"TwoStepOutputs$Rows", "set", "(III)V"⟩
def p_y28 : MethodName := ⟨"TwoStepOutputs$Rows", "addRow", "()I"⟩
def p_y29 : MethodName := ⟨"TwoStepOutputs$Table", "<init>", "()V"⟩
def p_y30 : MethodName := ⟨"TwoStepOutputs$Table", "has", "(I)Z"⟩
def p_y31 : MethodName := ⟨"TwoStepOutputs$Table", "take", "(IIII)Z"⟩
def p_y32 : MethodName := ⟨"TwoStepOutputs", "<init>", "()V"⟩
def p_y33 : MethodName := ⟨"TwoStepOutputs", "output", "(I)I"⟩
def p_y34 : MethodName := ⟨"TwoStepOutputs", "write", "(III)I"⟩
def p_y35 : MethodName := ⟨"TwoStepOutputs", "barrier", "(I)I"⟩
def p_y36 : MethodName := ⟨"TwoStepOutputs", "keep", "(I)I"⟩
def p_y37 : MethodName := ⟨"TwoStepOutputs", "show", "()I"⟩
def p_y38 : MethodName := ⟨"TwoStepOutputs", "give", "(I)I"⟩
def p_y39 : MethodName := ⟨"TwoStepOutputs", "end", "(I)I"⟩
def p_y40 : MethodName := ⟨"TwoStepOutputs", "fails", "(II)I"⟩
def p_y41 : MethodName := ⟨"TwoStepOutputs", "power", "(I)I"⟩
def p_y42 : MethodName := ⟨"TwoStepOutputs", "open", "()I"⟩
def p_y43 : MethodName := ⟨"TwoStepOutputs", "about", "(II)I"⟩
def p_y44 : MethodName := ⟨"TwoStepOutputs", "part", "(III)I"⟩
def p_y45 : MethodName := ⟨"TwoStepOutputs", "line", "(III)J"⟩
def p_y46 : MethodName := ⟨"TwoStepOutputs", "last", "(III)J"⟩
def p_y47 : MethodName := ⟨"TwoStepOutputs", "reader", "(I)I"⟩
def p_y48 : MethodName := ⟨"TwoStepOutputs", "read", "(II)I"⟩
def p_y49 : MethodName := ⟨"TwoStepOutputs", "seen", "(II)I"⟩
def p_y50 : MethodName := ⟨"TwoStepOutputs", "record", "(II)I"⟩
def p_y51 : MethodName := ⟨"TwoStepOutputs", "told", "(I)I"⟩
def p_y52 : MethodName := ⟨"TwoStepOutputs", "audit", "()I"⟩
def p_y53 : MethodName := ⟨"TwoStepOutputs", "outputAt", "(I)LTwoStepOutputs$Output;"⟩
def p_y54 : MethodName := ⟨"TwoStepOutputs", "readerAt", "(I)LTwoStepOutputs$Reader;"⟩
def p_y55 : MethodName := ⟨"TwoStepOutputs", "isKey", "(I)Z"⟩
def p_y56 : MethodName := ⟨"TwoStepOutputs", "isMark", "(I)Z"⟩
def p_y57 : MethodName := ⟨"TwoStepOutputs", "greatestMark", "()I"⟩
def p_y58 : MethodName := ⟨"TwoStepOutputs", "mayAct", "()Z"⟩
def p_y59 : MethodName := ⟨"TwoStepOutputs", "emptyOpenParts", "()V"⟩
def p_y60 : MethodName := ⟨"TwoStepOutputs", "writeRecord", "(IIIII)Z"⟩
def p_y61 : MethodName := ⟨"TwoStepOutputs", "refusalOfBarrier", "(I)I"⟩
def p_y62 : MethodName := ⟨"TwoStepOutputs", "partsAfterBarrier", "()I"⟩
def p_y63 : MethodName := ⟨"TwoStepOutputs", "makeBarrier", "(I)I"⟩
def p_y64 : MethodName := ⟨"TwoStepOutputs", "closeOpenPart", "(LTwoStepOutputs$Output;I)Z"⟩
def p_y65 : MethodName := ⟨"TwoStepOutputs", "keepMark", "(II)Z"⟩
def p_y66 : MethodName := ⟨"TwoStepOutputs", "showAll", "()I"⟩
def p_y67 : MethodName := ⟨"TwoStepOutputs", "showOutput", "(LTwoStepOutputs$Output;)I"⟩
def p_y68 : MethodName := ⟨"TwoStepOutputs", "showPart", "(LTwoStepOutputs$Output;LTwoStepOutputs$Part;)I"⟩
def p_y69 : MethodName := ⟨"TwoStepOutputs", "giveUpFrom", "(I)I"⟩
def p_y70 : MethodName := ⟨"TwoStepOutputs", "giveUpParts", "(LTwoStepOutputs$Output;I)I"⟩
def p_y71 : MethodName := ⟨"TwoStepOutputsModel", "<init>", "()V"⟩
def p_y72 : MethodName := ⟨"TwoStepOutputsModel", "great", "(II)I"⟩
def p_y73 : MethodName := ⟨"TwoStepOutputsModel", "small", "(II)I"⟩
def p_y74 : MethodName := ⟨"TwoStepOutputsModel", "no", "(III)Z"⟩
def p_y75 : MethodName := ⟨"TwoStepOutputsModel", "strange", "(I)Z"⟩
def p_y76 : MethodName := ⟨"TwoStepOutputsModel", "act", "()Z"⟩
def p_y77 : MethodName := ⟨"TwoStepOutputsModel", "empty", "()V"⟩
def p_y78 : MethodName := ⟨"TwoStepOutputsModel", "record", "(IIIII)Z"⟩
def p_y79 : MethodName := ⟨"TwoStepOutputsModel", "rowsOf", "(II)I"⟩
def p_y80 : MethodName := ⟨"TwoStepOutputsModel", "stateOf", "(II)I"⟩
def p_y81 : MethodName := ⟨"TwoStepOutputsModel", "markOf", "(II)I"⟩
def p_y82 : MethodName := ⟨"TwoStepOutputsModel", "output", "(I)I"⟩
def p_y83 : MethodName := ⟨"TwoStepOutputsModel", "write", "(III)I"⟩
def p_y84 : MethodName := ⟨"TwoStepOutputsModel", "greatest", "()I"⟩
def p_y85 : MethodName := ⟨"TwoStepOutputsModel", "bars", "(I)I"⟩
def p_y86 : MethodName := ⟨"TwoStepOutputsModel", "bar", "(I)I"⟩
def p_y87 : MethodName := ⟨"TwoStepOutputsModel", "barrier", "(I)I"⟩
def p_y88 : MethodName := ⟨"TwoStepOutputsModel", "keep", "(I)I"⟩
def p_y89 : MethodName := ⟨"TwoStepOutputsModel", "show", "()I"⟩
def p_y90 : MethodName := ⟨"TwoStepOutputsModel", "shown", "()I"⟩
def p_y91 : MethodName := ⟨"TwoStepOutputsModel", "showPart", "(II)I"⟩
def p_y92 : MethodName := ⟨"TwoStepOutputsModel", "line", "(IIII)I"⟩
def p_y93 : MethodName := ⟨"TwoStepOutputsModel", "last", "(IIII)I"⟩
def p_y94 : MethodName := ⟨"TwoStepOutputsModel", "goes", "(II)I"⟩
def p_y95 : MethodName := ⟨"TwoStepOutputsModel", "give", "(I)I"⟩
def p_y96 : MethodName := ⟨"TwoStepOutputsModel", "end", "(I)I"⟩
def p_y97 : MethodName := ⟨"TwoStepOutputsModel", "fails", "(II)I"⟩
def p_y98 : MethodName := ⟨"TwoStepOutputsModel", "power", "(I)I"⟩
def p_y99 : MethodName := ⟨"TwoStepOutputsModel", "open", "()I"⟩
def p_y100 : MethodName := ⟨"TwoStepOutputsModel", "about", "(II)I"⟩
def p_y101 : MethodName := ⟨"TwoStepOutputsModel", "part", "(III)I"⟩
def p_y102 : MethodName := ⟨"TwoStepOutputsModel", "line", "(III)J"⟩
def p_y103 : MethodName := ⟨"TwoStepOutputsModel", "last", "(III)J"⟩
def p_y104 : MethodName := ⟨"TwoStepOutputsModel", "reader", "(I)I"⟩
def p_y105 : MethodName := ⟨"TwoStepOutputsModel", "read", "(II)I"⟩
def p_y106 : MethodName := ⟨"TwoStepOutputsModel", "seen", "(II)I"⟩
def p_y107 : MethodName := ⟨"TwoStepOutputsModel", "record", "(II)I"⟩
def p_y108 : MethodName := ⟨"TwoStepOutputsModel", "told", "(I)I"⟩
def p_y109 : MethodName := ⟨"TwoStepOutputsModel", "audit", "()I"⟩
def p_y110 : MethodName := ⟨"TwoStepOutputsModel", "lacks", "(II)I"⟩
def p_y111 : MethodName := ⟨"java/lang/Math", "max", "(II)I"⟩
def p_y112 : MethodName := ⟨"java/lang/Math", "min", "(II)I"⟩
def p_y113 : MethodName := ⟨"java/util/AbstractCollection", "<init>", "()V"⟩
def p_y114 : MethodName := ⟨"java/util/AbstractList", "<init>", "()V"⟩
def p_y115 : MethodName := ⟨"java/util/ArrayList", "<init>", "()V"⟩
def p_y116 : MethodName := ⟨"java/util/ArrayList", "grow", "(I)[Ljava/lang/Object;"⟩
def p_y117 : MethodName := ⟨"java/util/ArrayList", "grow", "()[Ljava/lang/Object;"⟩
def p_y118 : MethodName := ⟨"java/util/ArrayList", "size", "()I"⟩
def p_y119 : MethodName := ⟨"java/util/ArrayList", "elementData", "(I)Ljava/lang/Object;"⟩
def p_y120 : MethodName := ⟨"java/util/ArrayList", "get", "(I)Ljava/lang/Object;"⟩
def p_y121 : MethodName := ⟨"java/util/ArrayList", "add", "(Ljava/lang/Object;[Ljava/lang/Object;I)V"⟩
def p_y122 : MethodName := ⟨"java/util/ArrayList", "add", "(Ljava/lang/Object;)Z"⟩
def p_y123 : MethodName := ⟨"java/util/Arrays", "fill", "([II)V"⟩
def p_y124 : MethodName := ⟨"java/util/Arrays", "copyOf", "([Ljava/lang/Object;I)[Ljava/lang/Object;"⟩
def p_y125 : MethodName := ⟨"java/util/Arrays", "copyOf", "([Ljava/lang/Object;ILjava/lang/Class;)[Ljava/lang/Object;"⟩
def p_y126 : MethodName := ⟨"java/util/Arrays", "copyOf", "([II)[I"⟩
def p_y127 : MethodName := ⟨"java/util/Objects", "checkIndex", "(II)I"⟩
def p_y128 : MethodName := ⟨"jdk/internal/util/ArraysSupport", "newLength", "(III)I"⟩
def p_y129 : MethodName := ⟨"jdk/internal/util/Preconditions", "checkIndex", "(IILjava/util/function/BiFunction;)I"⟩
def p_y130 : MethodName := ⟨"TwoStepOutputsLaw", "law", "([I)Z"⟩
abbrev am_M : Type := MethodName × ByteArray × Nat × Option FieldType × Nat × Nat
def p_ms : List am_M := [(p_y0, prog_2_method_1_code, 1, none, 1, 20), (p_y1, prog_2_method_2_code, 2, none, 0, 0), (p_y2, prog_2_method_3_code, 3, some .boolean, 0, 0), (p_y3, prog_2_method_4_code, 1, some .int, 0, 0), (p_y4, prog_2_method_5_code, 2, none, 0, 0), (p_y5, prog_3_method_1_code, 1, none, 2, 42), (p_y6, prog_3_method_2_code, 7, none, 3, 83), (p_y7, prog_4_method_1_code, 1, none, 2, 42), (p_y8, prog_4_method_2_code, 6, some .boolean, 3, 83), (p_y9, prog_4_method_3_code, 5, some .boolean, 2, 44), (p_y10, prog_5_method_1_code, 3, none, 4, 80), (p_y11, prog_5_method_2_code, 3, some .boolean, 0, 0), (p_y12, prog_5_method_3_code, 2, some (.object "TwoStepOutputs$Part"), 3, 64), (p_y13, prog_5_method_4_code, 3, some .int, 3, 64), (p_y14, prog_5_method_5_code, 1, some .boolean, 0, 0), (p_y15, prog_5_method_6_code, 3, some .boolean, 5, 108), (p_y16, prog_5_method_7_code, 4, some .boolean, 4, 85), (p_y17, prog_5_method_8_code, 4, some .boolean, 4, 85), (p_y18, prog_5_method_9_code, 3, some .boolean, 4, 85), (p_y19, prog_5_method_10_code, 6, some .boolean, 3, 64), (p_y20, prog_6_method_1_code, 3, none, 1, 20), (p_y21, prog_7_method_1_code, 2, none, 1, 20), (p_y22, prog_7_method_2_code, 4, some .int, 2, 44), (p_y23, prog_8_method_1_code, 2, none, 1, 21), (p_y24, prog_8_method_2_code, 1, some .int, 0, 0), (p_y25, prog_8_method_3_code, 3, some .boolean, 0, 0), (p_y26, prog_8_method_4_code, 3, some .int, 1, 22), (p_y27, prog_8_method_5_code, 4, none, 1, 22), (p_y28, prog_8_method_6_code, 2, some .int, 2, 62), (p_y29, prog_9_method_1_code, 1, none, 1, 23), (p_y30, prog_9_method_2_code, 2, some .boolean, 1, 20), (p_y31, prog_9_method_3_code, 6, some .boolean, 2, 41), (p_y32, prog_1_method_1_code, 1, none, 4, 80), (p_y33, prog_1_method_2_code, 3, some .int, 7, 171), (p_y34, prog_1_method_3_code, 5, some .int, 4, 85), (p_y35, prog_1_method_4_code, 3, some .int, 9, 220), (p_y36, prog_1_method_5_code, 2, some .int, 9, 209), (p_y37, prog_1_method_6_code, 1, some .int, 9, 209), (p_y38, prog_1_method_7_code, 3, some .int, 8, 184), (p_y39, prog_1_method_8_code, 3, some .int, 9, 220), (p_y40, prog_1_method_9_code, 5, some .int, 4, 85), (p_y41, prog_1_method_10_code, 2, some .int, 0, 0), (p_y42, prog_1_method_11_code, 2, some .int, 9, 209), (p_y43, prog_1_method_12_code, 4, some .int, 4, 86), (p_y44, prog_1_method_13_code, 6, some .int, 4, 85), (p_y45, prog_1_method_14_code, 5, some .long, 4, 85), (p_y46, prog_1_method_15_code, 5, some .long, 4, 85), (p_y47, prog_1_method_16_code, 3, some .int, 7, 171), (p_y48, prog_1_method_17_code, 4, some .int, 4, 85), (p_y49, prog_1_method_18_code, 4, some .int, 4, 85), (p_y50, prog_1_method_19_code, 3, some .int, 2, 44), (p_y51, prog_1_method_20_code, 2, some .int, 2, 41), (p_y52, prog_1_method_21_code, 7, some .int, 6, 130), (p_y53, prog_1_method_22_code, 2, some (.object "TwoStepOutputs$Output"), 3, 64), (p_y54, prog_1_method_23_code, 2, some (.object "TwoStepOutputs$Reader"), 3, 64), (p_y55, prog_1_method_24_code, 1, some .boolean, 0, 0), (p_y56, prog_1_method_25_code, 1, some .boolean, 0, 0), (p_y57, prog_1_method_26_code, 1, some .int, 1, 21), (p_y58, prog_1_method_27_code, 1, some .boolean, 4, 85), (p_y59, prog_1_method_28_code, 2, none, 3, 64), (p_y60, prog_1_method_29_code, 6, some .boolean, 5, 109), (p_y61, prog_1_method_30_code, 2, some .int, 4, 87), (p_y62, prog_1_method_31_code, 4, some .int, 3, 64), (p_y63, prog_1_method_32_code, 6, some .int, 8, 195), (p_y64, prog_1_method_33_code, 5, some .boolean, 7, 171), (p_y65, prog_1_method_34_code, 3, some .boolean, 6, 134), (p_y66, prog_1_method_35_code, 4, some .int, 8, 186), (p_y67, prog_1_method_36_code, 6, some .int, 7, 161), (p_y68, prog_1_method_37_code, 8, some .int, 6, 134), (p_y69, prog_1_method_38_code, 6, some .int, 7, 159), (p_y70, prog_1_method_39_code, 6, some .int, 6, 134), (p_y71, prog_11_method_1_code, 2, none, 1, 20), (p_y72, prog_11_method_2_code, 2, some .int, 0, 0), (p_y73, prog_11_method_3_code, 2, some .int, 0, 0), (p_y74, prog_11_method_4_code, 3, some .boolean, 0, 0), (p_y75, prog_11_method_5_code, 2, some .boolean, 1, 22), (p_y76, prog_11_method_6_code, 1, some .boolean, 1, 21), (p_y77, prog_11_method_7_code, 2, none, 0, 0), (p_y78, prog_11_method_8_code, 6, some .boolean, 2, 41), (p_y79, prog_11_method_9_code, 5, some .int, 0, 0), (p_y80, prog_11_method_10_code, 5, some .int, 0, 0), (p_y81, prog_11_method_11_code, 4, some .int, 0, 0), (p_y82, prog_11_method_12_code, 2, some .int, 1, 22), (p_y83, prog_11_method_13_code, 5, some .int, 2, 43), (p_y84, prog_11_method_14_code, 1, some .int, 1, 21), (p_y85, prog_11_method_15_code, 5, some .int, 2, 41), (p_y86, prog_11_method_16_code, 7, some .int, 3, 66), (p_y87, prog_11_method_17_code, 3, some .int, 4, 92), (p_y88, prog_11_method_18_code, 4, some .int, 5, 117), (p_y89, prog_11_method_19_code, 1, some .int, 5, 117), (p_y90, prog_11_method_20_code, 6, some .int, 4, 92), (p_y91, prog_11_method_21_code, 7, some .int, 3, 66), (p_y92, prog_11_method_22_code, 7, some .int, 0, 0), (p_y93, prog_11_method_23_code, 6, some .int, 0, 0), (p_y94, prog_11_method_24_code, 6, some .int, 3, 66), (p_y95, prog_11_method_25_code, 5, some .int, 4, 91), (p_y96, prog_11_method_26_code, 3, some .int, 5, 117), (p_y97, prog_11_method_27_code, 4, some .int, 2, 43), (p_y98, prog_11_method_28_code, 2, some .int, 1, 22), (p_y99, prog_11_method_29_code, 3, some .int, 5, 117), (p_y100, prog_11_method_30_code, 6, some .int, 2, 43), (p_y101, prog_11_method_31_code, 4, some .int, 2, 43), (p_y102, prog_11_method_32_code, 5, some .long, 2, 43), (p_y103, prog_11_method_33_code, 5, some .long, 2, 43), (p_y104, prog_11_method_34_code, 2, some .int, 2, 43), (p_y105, prog_11_method_35_code, 4, some .int, 1, 22), (p_y106, prog_11_method_36_code, 5, some .int, 1, 22), (p_y107, prog_11_method_37_code, 3, some .int, 1, 22), (p_y108, prog_11_method_38_code, 2, some .int, 2, 41), (p_y109, prog_11_method_39_code, 7, some .int, 1, 25), (p_y110, prog_11_method_40_code, 6, some .int, 0, 0), (p_y111, prog_15_method_65_code, 2, some .int, 0, 0), (p_y112, prog_15_method_69_code, 2, some .int, 0, 0), (p_y113, prog_17_method_1_code, 1, none, 1, 20), (p_y114, prog_18_method_1_code, 1, none, 2, 40), (p_y115, prog_19_method_2_code, 1, none, 3, 60), (p_y116, prog_19_method_6_code, 4, some (.array (.object "java/lang/Object")), 3, 84), (p_y117, prog_19_method_7_code, 1, some (.array (.object "java/lang/Object")), 4, 107), (p_y118, prog_19_method_8_code, 1, some .int, 0, 0), (p_y119, prog_19_method_18_code, 2, some (.object "java/lang/Object"), 0, 0), (p_y120, prog_19_method_20_code, 2, some (.object "java/lang/Object"), 2, 43), (p_y121, prog_19_method_24_code, 4, none, 5, 127), (p_y122, prog_19_method_25_code, 2, some .boolean, 6, 150), (p_y123, prog_20_method_103_code, 4, none, 0, 0), (p_y124, prog_20_method_119_code, 2, some (.array (.object "java/lang/Object")), 2, 63), (p_y125, prog_20_method_120_code, 4, some (.array (.object "java/lang/Object")), 1, 40), (p_y126, prog_20_method_123_code, 3, some (.array .int), 1, 40), (p_y127, prog_23_method_17_code, 2, some .int, 1, 22), (p_y128, prog_26_method_27_code, 4, some .int, 1, 21), (p_y129, prog_27_method_11_code, 3, some .int, 0, 0), (p_y130, code, 4, some .boolean, 10, 242)]
def p_mx : List Nat := [1, 2, 3, 1, 2, 1, 7, 1, 6, 5, 3, 3, 2, 3, 1, 3, 4, 4, 3, 6, 3, 2, 4, 2, 1, 3, 3, 4, 2, 1, 2, 6, 1, 3, 5, 3, 2, 1, 3, 3, 5, 2, 2, 4, 6, 5, 5, 3, 4, 4, 3, 2, 7, 2, 2, 1, 1, 1, 1, 2, 6, 2, 4, 6, 5, 3, 4, 6, 8, 6, 6, 2, 2, 2, 3, 2, 1, 2, 6, 5, 5, 4, 2, 5, 1, 5, 7, 3, 4, 1, 6, 7, 7, 6, 6, 5, 3, 4, 2, 3, 6, 4, 5, 5, 2, 4, 5, 3, 2, 7, 6, 2, 2, 1, 1, 1, 4, 1, 1, 2, 2, 4, 2, 4, 2, 4, 3, 2, 4, 3, 4]
def p_ml (mi : Nat) : Nat := match p_mx[mi]? with
  | some n => n
  | none => 0
def p_rts : List (Option FieldType) := [none, none, some .boolean, some .int, none, none, none, none, some .boolean, some .boolean, none, some .boolean, some (.object "TwoStepOutputs$Part"), some .int, some .boolean, some .boolean, some .boolean, some .boolean, some .boolean, some .boolean, none, none, some .int, none, some .int, some .boolean, some .int, none, some .int, none, some .boolean, some .boolean, none, some .int, some .int, some .int, some .int, some .int, some .int, some .int, some .int, some .int, some .int, some .int, some .int, some .long, some .long, some .int, some .int, some .int, some .int, some .int, some .int, some (.object "TwoStepOutputs$Output"), some (.object "TwoStepOutputs$Reader"), some .boolean, some .boolean, some .int, some .boolean, none, some .boolean, some .int, some .int, some .int, some .boolean, some .boolean, some .int, some .int, some .int, some .int, some .int, none, some .int, some .int, some .boolean, some .boolean, some .boolean, none, some .boolean, some .int, some .int, some .int, some .int, some .int, some .int, some .int, some .int, some .int, some .int, some .int, some .int, some .int, some .int, some .int, some .int, some .int, some .int, some .int, some .int, some .int, some .int, some .int, some .long, some .long, some .int, some .int, some .int, some .int, some .int, some .int, some .int, some .int, some .int, none, none, none, some (.array (.object "java/lang/Object")), some (.array (.object "java/lang/Object")), some .int, some (.object "java/lang/Object"), some (.object "java/lang/Object"), none, some .boolean, none, some (.array (.object "java/lang/Object")), some (.array (.object "java/lang/Object")), some (.array .int), some .int, some .int, some .int, some .boolean]
def p_rt (mi : Nat) : Option FieldType := match p_rts[mi]? with
  | some n => n
  | none => none
end
section
/-! A run of the abstract machine, with fuel; its limit am_E; am_E is the fixed point of the step. -/
def am_step (P : Nat × Nat) (rec : Nat → Nat → am_L → List Value → am_H → Option am_R) (mi pc : Nat) (ls : am_L) (st : List Value) (h : am_H) : Option am_R :=
  match p_at mi pc with
  | none => none
  | some (i, _, x) => match am_act P p_ty p_df (p_rt mi) pc i x ls st h with
    | none => none
    | some (.inl r) => some r
    | some (.inr (.inl (pc', ls', st', h'))) => rec mi pc' ls' st' h'
    | some (.inr (.inr (cy, as, r))) => match rec cy 0 (am_ini as (p_ml cy)) [] h with
      | none => none
      | some (v, h') => rec mi (pc + 3) ls (v.toList ++ r) h'
def am_run (P : Nat × Nat) : Nat → Nat → Nat → am_L → List Value → am_H → Option am_R
  | 0, _, _, _, _, _ => none
  | f + 1, mi, pc, ls, st, h => am_step P (am_run P f) mi pc ls st h
theorem am_step_mono {P : Nat × Nat} {r1 r2 : Nat → Nat → am_L → List Value → am_H → Option am_R} (hr : ∀ mi pc ls st h r, r1 mi pc ls st h = some r → r2 mi pc ls st h = some r) {mi pc : Nat} {ls : am_L} {st : List Value} {h : am_H} {r : am_R} (hs : am_step P r1 mi pc ls st h = some r) : am_step P r2 mi pc ls st h = some r := by
  unfold am_step at hs ⊢
  split at hs
  · cases hs
  · rename_i i n x hp
    split at hs
    · cases hs
    · rename_i q hq
      exact hs
    · rename_i pc' ls' st' h' hq
      exact hr _ _ _ _ _ _ hs
    · rename_i cy as rr hq
      split at hs
      · cases hs
      · rename_i v h' hc
        rw [hr _ _ _ _ _ _ hc]
        exact hr _ _ _ _ _ _ hs
theorem am_run_mono1 (P : Nat × Nat) : ∀ (f mi pc : Nat) (ls : am_L) (st : List Value) (h : am_H) (r : am_R), am_run P f mi pc ls st h = some r → am_run P (f + 1) mi pc ls st h = some r := by
  intro f
  induction f with
  | zero => intro mi pc ls st h r hr; cases hr
  | succ f ih => intro mi pc ls st h r hr; exact am_step_mono ih hr
theorem am_run_mono (P : Nat × Nat) {f : Nat} (g : Nat) {mi pc : Nat} {ls : am_L} {st : List Value} {h : am_H} {r : am_R} (hr : am_run P f mi pc ls st h = some r) : am_run P (f + g) mi pc ls st h = some r := by
  induction g with
  | zero => exact hr
  | succ g ih => exact am_run_mono1 P _ _ _ _ _ _ _ ih
theorem am_run_fun (P : Nat × Nat) {f g : Nat} {mi pc : Nat} {ls : am_L} {st : List Value} {h : am_H} {r q : am_R} (hr : am_run P f mi pc ls st h = some r) (hq : am_run P g mi pc ls st h = some q) : r = q := by
  have h1 := am_run_mono P g hr
  have h2 := am_run_mono P f hq
  rw [Nat.add_comm] at h2
  exact Option.some.inj (h1.symm.trans h2)
noncomputable def am_E (P : Nat × Nat) (mi pc : Nat) (ls : am_L) (st : List Value) (h : am_H) : Option am_R :=
  @dite _ (∃ r, ∃ f, am_run P f mi pc ls st h = some r) (Classical.propDecidable _) (fun hx => some (Classical.choose hx)) (fun _ => none)
theorem am_E_of {P : Nat × Nat} {f mi pc : Nat} {ls : am_L} {st : List Value} {h : am_H} {r : am_R} (hr : am_run P f mi pc ls st h = some r) : am_E P mi pc ls st h = some r := by
  have hx : ∃ r, ∃ f, am_run P f mi pc ls st h = some r := ⟨r, f, hr⟩
  unfold am_E
  rw [dif_pos hx]
  obtain ⟨g, hg⟩ := Classical.choose_spec hx
  rw [am_run_fun P hr hg]
theorem am_E_ex {P : Nat × Nat} {mi pc : Nat} {ls : am_L} {st : List Value} {h : am_H} {r : am_R} (hr : am_E P mi pc ls st h = some r) : ∃ f, am_run P f mi pc ls st h = some r := by
  unfold am_E at hr
  split at hr
  · rename_i hx
    obtain ⟨g, hg⟩ := Classical.choose_spec hx
    refine ⟨g, ?_⟩
    rw [hg]
    exact hr
  · cases hr
theorem am_step_fin {P : Nat × Nat} {mi pc : Nat} {ls : am_L} {st : List Value} {h : am_H} {r : am_R} (hs : am_step P (am_E P) mi pc ls st h = some r) : ∃ f, am_step P (am_run P f) mi pc ls st h = some r := by
  unfold am_step at hs ⊢
  split at hs
  · cases hs
  · rename_i i n x hp
    split at hs
    · cases hs
    · rename_i q hq
      exact ⟨0, by exact hs⟩
    · rename_i pc' ls' st' h' hq
      obtain ⟨f, hf⟩ := am_E_ex hs
      exact ⟨f, by exact hf⟩
    · rename_i cy as rr hq
      split at hs
      · cases hs
      · rename_i v h' hc
        obtain ⟨f, hf⟩ := am_E_ex hc
        obtain ⟨g, hg⟩ := am_E_ex hs
        refine ⟨f + g, ?_⟩
        rw [am_run_mono P g hf]
        have := am_run_mono P f hg
        rw [Nat.add_comm] at this
        exact this
theorem am_E_eq (P : Nat × Nat) (mi pc : Nat) (ls : am_L) (st : List Value) (h : am_H) : am_E P mi pc ls st h = am_step P (am_E P) mi pc ls st h := by
  apply Option.ext
  intro r
  constructor
  · intro hr
    obtain ⟨f, hf⟩ := am_E_ex hr
    cases f with
    | zero => cases hf
    | succ f => exact am_step_mono (fun _ _ _ _ _ _ h => am_E_of h) hf
  · intro hs
    obtain ⟨f, hf⟩ := am_step_fin hs
    exact am_E_of (f := f + 1) hf
/-! the kinds of rows -/
section Rows
variable {P : Nat × Nat} {mi pc n : Nat} {i : Instr} {x : am_X} {ls ls' : am_L} {st st' : List Value} {h h' : am_H}
theorem er_go {pc' : Nat} (hc : p_at mi pc = some (i, n, x)) (ha : am_act P p_ty p_df (p_rt mi) pc i x ls st h = am_go pc' ls' st' h') : am_E P mi pc ls st h = am_E P mi pc' ls' st' h' := by
  rw [am_E_eq]
  unfold am_step
  simp only [hc, ha]
theorem er_no (hc : p_at mi pc = some (i, n, x)) (ha : am_act P p_ty p_df (p_rt mi) pc i x ls st h = none) : am_E P mi pc ls st h = none := by
  rw [am_E_eq]
  unfold am_step
  simp only [hc, ha]
theorem er_ret {r : am_R} (hc : p_at mi pc = some (i, n, x)) (ha : am_act P p_ty p_df (p_rt mi) pc i x ls st h = some (.inl r)) : am_E P mi pc ls st h = some r := by
  rw [am_E_eq]
  unfold am_step
  simp only [hc, ha]
theorem er_call {cy : Nat} {as r : List Value} (hc : p_at mi pc = some (i, n, x)) (ha : am_act P p_ty p_df (p_rt mi) pc i x ls st h = some (.inr (.inr (cy, as, r)))) : am_E P mi pc ls st h = (am_E P cy 0 (am_ini as (p_ml cy)) [] h).bind (fun q => am_E P mi (pc + 3) ls (q.1.toList ++ r) q.2) := by
  rw [am_E_eq]
  unfold am_step
  simp only [hc, ha]
  split <;> rename_i hq <;> rw [hq] <;> rfl
/-- reading a cell: the fact is put in as an equation -/
theorem er_opt {α : Type} {o : Option α} {k : α → Option am_A} {j : α → Option am_R} (hc : p_at mi pc = some (i, n, x)) (ha : am_act P p_ty p_df (p_rt mi) pc i x ls st h = (match o with | some v => k v | none => none)) (hk : ∀ v, am_act P p_ty p_df (p_rt mi) pc i x ls st h = k v → am_E P mi pc ls st h = j v) : am_E P mi pc ls st h = o.bind j := by
  cases o with
  | none => exact er_no hc ha
  | some v => exact hk v ha
theorem er_if {c : Prop} {hd : Decidable c} {a b : Option am_A} {u v : Option am_R} (ha : am_act P p_ty p_df (p_rt mi) pc i x ls st h = @ite _ c hd a b) (hu : am_act P p_ty p_df (p_rt mi) pc i x ls st h = a → am_E P mi pc ls st h = u) (hv : am_act P p_ty p_df (p_rt mi) pc i x ls st h = b → am_E P mi pc ls st h = v) : am_E P mi pc ls st h = @ite _ c hd u v := by
  by_cases hcc : c
  · rw [if_pos hcc] at ha ⊢; exact hu ha
  · rw [if_neg hcc] at ha ⊢; exact hv ha
end Rows
end
section
/-! The abstract heap against the machine's: H0 is the heap at the law's start; all that is new since is known cell by cell. -/
def sn_cell (D : va_G) (cyI cyO : ClassId) (H0 : Heap) (b L : Nat) (xs : Nat → Int32) (P : Nat × Nat) (H : Heap) (a : Nat) : am_C → Prop
  | .inl (n, f) => H0.size ≤ a ∧ H[a]? = some (vp_cell cyI (n, .inl f))
  | .inr (.inl (n, f)) => H0.size ≤ a ∧ H[a]? = some (vp_cell cyO (n, .inr (.inr (.inr (.inr f)))))
  | .inr (.inr (.inl (ci, fs))) => H0.size ≤ a ∧ va_at D p_cl (a, .inr (ci, fs)) H
  | .inr (.inr (.inr (.inl (n, f)))) => a = b ∧ n = L ∧ f = xs
  | .inr (.inr (.inr (.inr true))) => a = P.1
  | .inr (.inr (.inr (.inr false))) => True
def sn_obj (h : am_H) (y : Nat) : Prop := ∃ ci fs, h.2.2 y = ac_O ci fs ∧ 0 < ci
def sn_H (D : va_G) (cyI cyO : ClassId) (H0 : Heap) (b L : Nat) (xs : Nat → Int32) (P : Nat × Nat) (h : am_H) (H : Heap) : Prop :=
  H.size = h.1 ∧ H0.size ≤ h.1 ∧ (∀ q : Nat, q < H0.size → H[q]? = H0[q]?) ∧ (∀ a, sn_cell D cyI cyO H0 b L xs P H a (h.2.2 a)) ∧ (∀ a n f, h.2.2 a = ac_R n f → ∀ j y, f j = some y → sn_obj h y)
def sn_isN : Jvm.Cond → Bool
  | .fieldLinkNest .. => true
  | .methodLinkNest .. => true
  | .castable .. => true
  | _ => false
def sn_gw : List Jvm.Cond := lw_tbl.filter goodWord
/-- what the tables and the old heap say, at a state of the run -/
def sn_K (D : va_G) (cyI cyO : ClassId) (H0 : Heap) (b L : Nat) (xs : Nat → Int32) (P : Nat × Nat) (s : State) : Prop :=
  va_K D p_cl [(cyI, .int), (cyO, .object "java/lang/Object")] s ∧ va_X b L xs s H0 ∧ b < H0.size ∧
  va_Z "java/util/ArrayList" "DEFAULTCAPACITY_EMPTY_ELEMENTDATA" "[Ljava/lang/Object;" (.ref P.1) (fun q => H0.size ≤ q) s H0 ∧
  (∃ cell : Cell, H0[P.1]? = some cell ∧ s.isArrayOf cell (.object "java/lang/Object") ∧ cell.slots.size.toInt32 = 0) ∧ P.1 < H0.size ∧
  va_Mi "[Ljava/lang/Object;" P.2 s ∧ va_AO "java/lang/Object" s ∧ va_Dc s ∧ (∀ w ∈ lw_tbl, sn_isN w = true → va_Nw w s)
theorem sn_K.moved {D : va_G} {cyI cyO : ClassId} {H0 : Heap} {b L : Nat} {xs : Nat → Int32} {P : Nat × Nat} {s U : State} (hW : s.WarmedH U.vm) (h : sn_K D cyI cyO H0 b L xs P s) : sn_K D cyI cyO H0 b L xs P U := by
  obtain ⟨h1, h2, h3, h4, ⟨cell, h5, h6, h7⟩, h8, h9, h10, h11, h12⟩ := h
  refine ⟨va_K.moved hW.alike h1, va_X.moved hW.alike h2, h3, va_Z.moved hW.alike h4, ⟨cell, h5, State.isArrayOf_alike hW.alike h6, h7⟩, h8, va_Mi.moved hW.alike h9, va_AO.moved hW.alike h10, va_Dc.moved hW.alike h11, fun w hw hN => ?_⟩
  have hz := h12 w hw hN
  cases w <;> first | (exact va_Nw.warmF hW hz) | (exact va_Nw.warmM hW hz) | (exact va_Nw.warmC hW hz) | (cases hN)
section Cells
variable {D : va_G} {cyI cyO : ClassId} {H0 : Heap} {b L : Nat} {xs : Nat → Int32} {P : Nat × Nat} {h : am_H} {H H1 : Heap}
theorem sn_cell.kept {a : Nat} {c : am_C} (hc : sn_cell D cyI cyO H0 b L xs P H a c) (hq : a < H.size → H1[a]? = H[a]?) : sn_cell D cyI cyO H0 b L xs P H1 a c := by
  rcases c with ⟨n, f⟩ | ⟨n, f⟩ | ⟨ci, fs⟩ | ⟨n, f⟩ | z
  · exact ⟨hc.1, by rw [hq (Array.getElem?_eq_some_iff.mp hc.2).1]; exact hc.2⟩
  · exact ⟨hc.1, by rw [hq (Array.getElem?_eq_some_iff.mp hc.2).1]; exact hc.2⟩
  · exact ⟨hc.1, va_at.kept hc.2 (hq (va_at.lt hc.2))⟩
  · exact hc
  · cases z <;> exact hc
theorem sn_H.at {a : Nat} {c : am_C} (hH : sn_H D cyI cyO H0 b L xs P h H) (hc : h.2.2 a = c) : sn_cell D cyI cyO H0 b L xs P H a c := by
  rw [← hc]
  exact hH.2.2.2.1 a
theorem sn_put {a : Nat} {c : am_C} (hH : sn_H D cyI cyO H0 b L xs P h H) (ha : H0.size ≤ a) (z : H1.size = H.size) (oq : ∀ q : Nat, q ≠ a → H1[q]? = H[q]?) (hc : sn_cell D cyI cyO H0 b L xs P H1 a c)
    (hk : ∀ ci fs, h.2.2 a = ac_O ci fs → ∃ fs', c = ac_O ci fs') (hr : ∀ n f, c = ac_R n f → ∀ j y, f j = some y → sn_obj h y) : sn_H D cyI cyO H0 b L xs P (ah_put h a c) H1 := by
  obtain ⟨h1, h2, h3, h4, h5⟩ := hH
  have ho : ∀ y, sn_obj h y → sn_obj (ah_put h a c) y := by
    rintro y ⟨ci, fs, e1, e2⟩
    by_cases hy : y = a
    · subst hy
      obtain ⟨fs', e⟩ := hk ci fs e1
      exact ⟨ci, fs', by simp [ah_put, va_up, e], e2⟩
    · exact ⟨ci, fs, by simp [ah_put, va_up, hy, e1], e2⟩
  refine ⟨z.trans h1, h2, fun q hq => (oq q (by omega)).trans (h3 q hq), fun q => ?_, fun q n f e j y hy => ?_⟩
  · by_cases hq : q = a
    · subst hq
      simpa [ah_put, va_up] using hc
    · have : (ah_put h a c).2.2 q = h.2.2 q := by simp [ah_put, va_up, hq]
      rw [this]
      exact (h4 q).kept (fun _ => oq q hq)
  · apply ho
    by_cases hq : q = a
    · subst hq
      exact hr n f (by simpa [ah_put, va_up] using e) j y hy
    · exact h5 q n f (by simpa [ah_put, va_up, hq] using e) j y hy
theorem sn_new {c : am_C} {k : Nat} (hH : sn_H D cyI cyO H0 b L xs P h H) (z : H1.size = h.1 + 1) (oq : ∀ q : Nat, q < h.1 → H1[q]? = H[q]?) (hc : sn_cell D cyI cyO H0 b L xs P H1 h.1 c)
    (hr : ∀ n f, c = ac_R n f → ∀ j, f j = none) : sn_H D cyI cyO H0 b L xs P (ah_new h k c) H1 := by
  obtain ⟨h1, h2, h3, h4, h5⟩ := hH
  have ho : ∀ y, sn_obj h y → sn_obj (ah_new h k c) y := by
    rintro y ⟨ci, fs, e1, e2⟩
    have hy : y ≠ h.1 := by
      intro hy
      have := h4 y
      rw [e1] at this
      have := va_at.lt this.2
      simp only at this
      omega
    exact ⟨ci, fs, by simp [ah_new, va_up, hy, e1], e2⟩
  refine ⟨z, Nat.le_succ_of_le h2, fun q hq => (oq q (by omega)).trans (h3 q hq), fun q => ?_, fun q n f e j y hy => ?_⟩
  · by_cases hq : q = h.1
    · subst hq
      simpa [ah_new, va_up] using hc
    · have : (ah_new h k c).2.2 q = h.2.2 q := by simp [ah_new, va_up, hq]
      rw [this]
      exact (h4 q).kept (fun hl => oq q (by omega))
  · apply ho
    by_cases hq : q = h.1
    · subst hq
      have := hr n f (by simpa [ah_new, va_up] using e) j
      rw [this] at hy
      cases hy
    · exact h5 q n f (by simpa [ah_new, va_up, hq] using e) j y hy
end Cells
/-! locals -/
def sn_L (A : Array Slot) (ls : am_L) : Prop := A.size = ls.length ∧ lv_wf A ∧ ∀ (i : Nat) (v : Value), ls[i]? = some (some v) → A[i]? = some (Slot.val v) ∧ v.category = 1
def sn_lv (ls : am_L) : List (Nat × Value) := (List.range ls.length).filterMap (fun i => match ls[i]? with
  | some (some v) => some (i, v)
  | _ => none)
theorem sn_lv_mem {ls : am_L} {i : Nat} {v : Value} : (i, v) ∈ sn_lv ls ↔ ls[i]? = some (some v) := by
  unfold sn_lv
  rw [List.mem_filterMap]
  constructor
  · rintro ⟨j, -, hj⟩
    split at hj
    · rename_i w hw
      cases hj
      exact hw
    · cases hj
  · intro hi
    refine ⟨i, List.mem_range.mpr (List.getElem?_eq_some_iff.mp hi).1, ?_⟩
    rw [hi]
theorem sn_L.has {A : Array Slot} {ls : am_L} (h : sn_L A ls) : lv_has A ls.length (sn_lv ls) := ⟨h.1, h.2.1, fun q hq => (h.2.2 q.1 q.2 (sn_lv_mem.mp hq)).1⟩
theorem sn_L.set {A A' : Array Slot} {ls : am_L} {k : Nat} {v : Value} (h : sn_L A ls) (hv : v.category = 1) (hA : lv_has A' ls.length ((k, v) :: (sn_lv ls).filter (fun q => !(q.1 == k) && !(q.1 + 1 == k && q.2.category == 2)))) : sn_L A' (ls.set k (some v)) := by
  refine ⟨by rw [List.length_set]; exact hA.1, hA.2.1, fun i w hi => ?_⟩
  by_cases hik : i = k
  · subst hik
    have hw : w = v := by
      rw [List.getElem?_set] at hi
      split at hi
      · split at hi
        · cases hi; rfl
        · cases hi
      · rename_i hne; exact absurd rfl hne
    subst hw
    exact ⟨hA.2.2 (i, w) List.mem_cons_self, hv⟩
  · have hi' : ls[i]? = some (some w) := by
      rw [List.getElem?_set] at hi
      rw [if_neg (fun e => hik e.symm)] at hi
      exact hi
    have hc := (h.2.2 i w hi').2
    refine ⟨hA.2.2 (i, w) (List.mem_cons_of_mem _ (List.mem_filter.mpr ⟨sn_lv_mem.mpr hi', ?_⟩)), hc⟩
    simp [hik, hc]
theorem sn_ld {A : Array Slot} {ls : am_L} {k : Nat} {v : Value} (h : sn_L A ls) (hk : am_ld ls k = some v) : A[k]? = some (.val v) := by
  unfold am_ld at hk
  split at hk
  · rename_i w hw
    cases hk
    exact (h.2.2 k _ hw).1
  · cases hk
end
section
/-! Checks of the program's tables (decided by the kernel), and the instructions that read and write cells. -/
def sn_fok (ref nm d : String) (al : List (Nat × Nat)) : Bool := al.all (fun q => match p_cl[q.1]? with
  | some r => decide (q.2 < r.2.2) && (decide ((r.2.1 q.2).2.1 = nm) && (decide ((r.2.1 q.2).2.2.1 = d) && (decide ((r.2.1 q.2).1 = ref) || (decide (Jvm.Cond.sameField ref (r.2.1 q.2).1 nm d ∈ lw_tbl) && goodWord (Jvm.Cond.sameField ref (r.2.1 q.2).1 nm d)))))
  | none => false)
def sn_getf (own : String) (idx : Nat) (al : List (Nat × Nat)) (ix : Nat) : Bool := match lw_tbl[ix]? with
  | some (.fieldLink o i r nm d) => decide (o = own) && (decide (i = idx) && (goodWord (.fieldLink o i r nm d) && sn_fok r nm d al))
  | some (.fieldLinkNest o i r nm d _) => decide (o = own) && (decide (i = idx) && sn_fok r nm d al)
  | _ => false
def sn_nfin (al : List (Nat × Nat)) : Bool := al.all (fun q => match p_cl[q.1]? with
  | some r => !(r.2.1 q.2).2.2.2
  | none => false)
def sn_fin (own : String) (al : List (Nat × Nat)) : Bool := al.all (fun q => match p_cl[q.1]? with
  | some r => (r.2.1 q.2).2.2.2 && decide ((r.2.1 q.2).1 = own)
  | none => false)
def sn_isP (ix : Nat) : Bool := match lw_tbl[ix]? with
  | some (.fieldLink ..) => true
  | _ => false
/-- a field may be written: it isn't final; or it is the class's own, in its constructor -/
def sn_putf (own mn : String) (idx : Nat) (al : List (Nat × Nat)) (ix : Nat) : Bool := sn_getf own idx al ix && (sn_nfin al || (sn_isP ix && (sn_fin own al && decide (mn = "<init>"))))
theorem sn_in {w : Jvm.Cond} {ix : Nat} (h : lw_tbl[ix]? = some w) (hg : goodWord w = true) : w ∈ sn_gw := List.mem_filter.mpr ⟨List.mem_of_getElem? h, hg⟩
theorem sn_inM {w : Jvm.Cond} (h : w ∈ lw_tbl) (hg : goodWord w = true) : w ∈ sn_gw := List.mem_filter.mpr ⟨h, hg⟩
theorem sn_fok_at {ref nm d : String} {al : List (Nat × Nat)} {ci k : Nat} (h : sn_fok ref nm d al = true) (hk : al.lookup ci = some k) : ∃ C T N, p_cl[ci]? = some (C, T, N) ∧ k < N ∧ (T k).2.1 = nm ∧ (T k).2.2.1 = d ∧ ((T k).1 = ref ∨ Jvm.Cond.sameField ref (T k).1 nm d ∈ sn_gw) := by
  have hm : (ci, k) ∈ al := by
    clear h
    induction al with
    | nil => cases hk
    | cons q al ih =>
      obtain ⟨q1, q2⟩ := q
      rw [List.lookup_cons] at hk
      split at hk
      · rename_i hq
        cases hk
        rw [eq_of_beq hq]
        exact List.mem_cons_self
      · exact List.mem_cons_of_mem _ (ih hk)
  have h1 := List.all_eq_true.mp h (ci, k) hm
  simp only at h1
  split at h1
  · rename_i r hr
    obtain ⟨C, T, N⟩ := r
    simp only [Bool.and_eq_true, Bool.or_eq_true, decide_eq_true_eq] at h1
    obtain ⟨a1, a2, a3, a4⟩ := h1
    refine ⟨C, T, N, hr, a1, a2, a3, ?_⟩
    rcases a4 with a4 | a4
    · exact Or.inl a4
    · exact Or.inr (sn_inM a4.1 a4.2)
  · cases h1
theorem sn_all_at {al : List (Nat × Nat)} {ci k : Nat} {p : vw_C → Nat → Bool} {C : String} {T : u_T} {N : Nat} (h : al.all (fun q => match p_cl[q.1]? with
  | some r => p r q.2
  | none => false) = true) (hk : al.lookup ci = some k) (hr : p_cl[ci]? = some (C, T, N)) : p (C, T, N) k = true := by
  have hm : (ci, k) ∈ al := by
    clear h
    induction al with
    | nil => cases hk
    | cons q al ih =>
      obtain ⟨q1, q2⟩ := q
      rw [List.lookup_cons] at hk
      split at hk
      · rename_i hq
        cases hk
        rw [eq_of_beq hq]
        exact List.mem_cons_self
      · exact List.mem_cons_of_mem _ (ih hk)
  have h1 := List.all_eq_true.mp h (ci, k) hm
  simp only [hr] at h1
  exact h1
/-- each class: its fields' words are in the tables; names differ; types; values at birth -/
def sn_clok (ci : Nat) : Prop := ∀ C T N, p_cl[ci]? = some (C, T, N) → (∀ w ∈ u_ws C T N, w ∈ sn_gw) ∧ (∀ k, k < N → parseFieldDescriptor (T k).2.2.1 = some (p_ty ci k)) ∧ (∀ a, a < N → ∀ b, b < N → a ≠ b → (T a).2.1 ≠ (T b).2.1) ∧ (∀ k, k < N → defaultValue (p_ty ci k) = vp_V (p_df ci) k) ∧ (p_df ci).length = N
def sn_uok (ws : List Jvm.Cond) : Bool := ws.all (fun w => decide (w ∈ lw_tbl) && goodWord w)
theorem sn_uok_in {ws : List Jvm.Cond} (h : sn_uok ws = true) : ∀ w ∈ ws, w ∈ sn_gw := by
  intro w hw
  have h1 := List.all_eq_true.mp h w hw
  simp only [Bool.and_eq_true, decide_eq_true_eq] at h1
  exact sn_inM h1.1 h1.2
theorem sn_u0 : sn_uok (u_ws pR0 pT0 3) = true := by decide +kernel
theorem sn_u1 : sn_uok (u_ws pR1 pT1 3) = true := by decide +kernel
theorem sn_u2 : sn_uok (u_ws pR2 pT2 3) = true := by decide +kernel
theorem sn_u3 : sn_uok (u_ws pR3 pT3 3) = true := by decide +kernel
theorem sn_u4 : sn_uok (u_ws pR4 pT4 10) = true := by decide +kernel
theorem sn_u5 : sn_uok (u_ws pR5 pT5 7) = true := by decide +kernel
theorem sn_u6 : sn_uok (u_ws pR6 pT6 3) = true := by decide +kernel
theorem sn_u7 : sn_uok (u_ws pR7 pT7 4) = true := by decide +kernel
theorem sn_u8 : sn_uok (u_ws pR8 pT8 9) = true := by decide +kernel
theorem sn_u9 : sn_uok (u_ws pR9 pT9 34) = true := by decide +kernel
theorem sn_cls : ∀ ci, sn_clok ci := by
  intro ci C T N h
  rcases ci with _ | _ | _ | _ | _ | _ | _ | _ | _ | _ | ci
  · cases h; exact ⟨sn_uok_in sn_u0, pY0, pN0, pD0, rfl⟩
  · cases h; exact ⟨sn_uok_in sn_u1, pY1, pN1, pD1, rfl⟩
  · cases h; exact ⟨sn_uok_in sn_u2, pY2, pN2, pD2, rfl⟩
  · cases h; exact ⟨sn_uok_in sn_u3, pY3, pN3, pD3, rfl⟩
  · cases h; exact ⟨sn_uok_in sn_u4, pY4, pN4, pD4, rfl⟩
  · cases h; exact ⟨sn_uok_in sn_u5, pY5, pN5, pD5, rfl⟩
  · cases h; exact ⟨sn_uok_in sn_u6, pY6, pN6, pD6, rfl⟩
  · cases h; exact ⟨sn_uok_in sn_u7, pY7, pN7, pD7, rfl⟩
  · cases h; exact ⟨sn_uok_in sn_u8, pY8, pN8, pD8, rfl⟩
  · cases h; exact ⟨sn_uok_in sn_u9, pY9, pN9, pD9, rfl⟩
  · simp [p_cl] at h
theorem sn_okf {ty : FieldType} {v : Value} (h : am_okf ty v = true) : narrow ty v = v ∧ fits ty v = true := by
  unfold am_okf at h
  split at h
  · split at h
    · exact ⟨rfl, rfl⟩
    · cases h
  · split at h
    · rename_i x
      simp only [Bool.or_eq_true, beq_iff_eq] at h
      rcases h with rfl | rfl <;> exact ⟨by decide +kernel, by decide +kernel⟩
    · cases h
  · split at h
    · exact ⟨rfl, rfl⟩
    · exact ⟨rfl, rfl⟩
    · cases h
  · split at h
    · exact ⟨rfl, rfl⟩
    · exact ⟨rfl, rfl⟩
    · cases h
  · cases h
theorem sn_ix {i : Int32} {n k : Nat} (h : am_ix i n = some k) : vp_in i n ∧ i.toNatClampNeg = k := by
  unfold am_ix at h
  split at h
  · rename_i hi
    cases h
    exact ⟨vp_in_iff.mpr hi, rfl⟩
  · cases h
section Mem
variable {p : Program} {l : Launch} {e : Env} {R : Room} {s : State} {m : MethodId} {args : Array Value} {below : List Frame} {meth : Method} {c : Code} {H : Heap} {locs : List Loc} {cells slots : Nat} {Q : State → Prop}
variable {cc : ByteArray} {pc : Nat} {ls : Array Slot} {rest : List Value} {a : Nat}
variable {D : va_G} {cyI cyO : ClassId} {H0 : Heap} {b L : Nat} {xs : Nat → Int32} {P : Nat × Nat} {h : am_H}
theorem sn_w_get {own : String} {idx ix : Nat} {al : List (Nat × Nat)} {v : Value} (hx : p.tables.exec = Jvm.exec) (hb : c.code = cc) (hts : ∀ w ∈ sn_gw, w.before args s = true) (hown : s.vm.findClass own = some m.cls) (hK : sn_K D cyI cyO H0 b L xs P s) (hH : sn_H D cyI cyO H0 b L xs P h H) (hck : sn_getf own idx al ix = true) (hv : am_gf h a al = some v) (hdg : decode cc pc = .ok (.getfield idx, 3))
    (k : W p l e R s m args below meth c H locs cells slots Q (F0 m (pc + 3) ls (v :: rest))) : W p l e R s m args below meth c H locs cells slots Q (F0 m pc ls (.ref a :: rest)) := by
  unfold am_gf at hv
  split at hv
  · rename_i ci fs hc
    split at hv
    · rename_i j hj
      have hcell := (hH.at hc).2
      have hP : va_P D p_cl [(a, .inr (ci, fs))] H := fun k q hq => by
        have hz : k < 1 := (List.getElem?_eq_some_iff.mp hq).1
        have : k = 0 := by omega
        subst this
        cases hq
        exact hcell
      unfold sn_getf at hck
      split at hck
      · rename_i o i r nm d hw
        simp only [Bool.and_eq_true, decide_eq_true_eq] at hck
        obtain ⟨rfl, rfl, hg, hf⟩ := hck
        obtain ⟨C, T, N, c1, c2, c3, c4, c5⟩ := sn_fok_at hf hj
        subst c3; subst c4
        exact va_get hx hb hts (sn_cls ci C T N c1).1 hown hK.1 hP 0 rfl c1 j c2 (hts _ (sn_in hw hg)) (fun x h9 => by
          rcases c5 with c5 | c5
          · rw [← c5]; exact h9
          · exact u_same (hts _ c5) x h9) hv hdg k
      · rename_i o i r nm d ho hw
        simp only [Bool.and_eq_true, decide_eq_true_eq] at hck
        obtain ⟨rfl, rfl, hf⟩ := hck
        obtain ⟨C, T, N, c1, c2, c3, c4, c5⟩ := sn_fok_at hf hj
        subst c3; subst c4
        have hN := hK.2.2.2.2.2.2.2.2.2 _ (List.mem_of_getElem? hw) rfl
        exact va_getN hx hb hts (sn_cls ci C T N c1).1 hown hK.1 hP 0 rfl c1 j c2 (va_Nw.use rfl hN) (fun x h9 => by
          rcases c5 with c5 | c5
          · rw [← c5]; exact h9
          · exact u_same (hts _ c5) x h9) hv hdg k
      · cases hck
    · cases hv
  · cases hv
theorem sn_w_put {own mn : String} {idx ix : Nat} {al : List (Nat × Nat)} {v : Value} {h' : am_H} (hx : p.tables.exec = Jvm.exec) (hb : c.code = cc) (hts : ∀ w ∈ sn_gw, w.before args s = true) (hown : s.vm.findClass own = some m.cls) (hK : sn_K D cyI cyO H0 b L xs P s) (hH : sn_H D cyI cyO H0 b L xs P h H) (hmn : mn = "<init>" → meth.name = "<init>") (hck : sn_putf own mn idx al ix = true) (hv : am_pf p_ty h a al v = some h') (hl : ∀ q ∈ locs, H0.size ≤ q.base) (hdg : decode cc pc = .ok (.putfield idx, 3))
    (k : ∀ (H1 : Heap) (locs1 : List Loc), sn_H D cyI cyO H0 b L xs P h' H1 → (∀ q ∈ locs1, H0.size ≤ q.base) → W p l e R s m args below meth c H1 locs1 cells slots Q (F0 m (pc + 3) ls rest)) : W p l e R s m args below meth c H locs cells slots Q (F0 m pc ls (v :: .ref a :: rest)) := by
  unfold am_pf at hv
  split at hv
  · rename_i ci fs hc
    split at hv
    · rename_i j hj
      split at hv
      · rename_i hcond
        obtain ⟨hlen, hokf⟩ := hcond
        cases hv
        obtain ⟨ha, r0, hr0, cell, q1, q2, q3, q4⟩ := hH.at hc
        unfold sn_putf at hck
        rw [Bool.and_eq_true] at hck
        obtain ⟨hck, hfin⟩ := hck
        have fin : ∀ (C : String) (T : u_T) (N : Nat), p_cl[ci]? = some (C, T, N) → (T j).2.2.2 = false ∨ ((T j).2.2.2 = true ∧ (T j).1 = own ∧ meth.name = "<init>" ∧ sn_isP ix = true) := by
          intro C T N hcl
          rw [Bool.or_eq_true] at hfin
          rcases hfin with hf | hf
          · left
            have := sn_all_at (p := fun r k => !(r.2.1 k).2.2.2) hf hj hcl
            simpa using this
          · right
            simp only [Bool.and_eq_true, decide_eq_true_eq] at hf
            have := sn_all_at (p := fun r k => (r.2.1 k).2.2.2 && decide ((r.2.1 k).1 = own)) hf.2.1 hj hcl
            simp only [Bool.and_eq_true, decide_eq_true_eq] at this
            exact ⟨this.1, this.2, hmn hf.2.2, hf.1⟩
        have done : ∀ (C : String) (T : u_T) (N : Nat) (H1 : Heap), p_cl[ci]? = some (C, T, N) → j < N → H1[a]? = some (cell.setSlot (D.2 ci j) v) → H1.size = H.size → (∀ q, q ≠ a → H1[q]? = H[q]?) → sn_H D cyI cyO H0 b L xs P (ah_put h a (ac_O ci (fs.set j v))) H1 := by
          intro C T N H1 hcl hjN e1 e2 e3
          have hr : r0 = (C, T, N) := Option.some.inj (hr0.symm.trans hcl)
          subst hr
          obtain ⟨u1, u2, u3, -⟩ := sn_cls ci C T N hcl
          have hap := va_apart (own := own) hts u1 (p_ty ci) u2 u3 hK.1 hcl
          refine sn_put hH ha e2 e3 ⟨ha, _, hcl, t_OB.to (V := updV (vp_V fs) j v) ⟨_, e1, q2, q3, t_set q4 hap hjN v⟩ (fun i _ => vp_updV_set hlen v i)⟩ (fun ci' fs' h9 => ?_) (fun n f h9 => by cases h9)
          rw [hc] at h9
          cases h9
          exact ⟨_, rfl⟩
        have hloc : ∀ (i : Nat), ∀ q ∈ locs ++ [(⟨a, i⟩ : Loc)], H0.size ≤ q.base := by
          intro i q hq
          rcases List.mem_append.mp hq with h9 | h9
          · exact hl q h9
          · rw [List.mem_singleton.mp h9]; exact ha
        unfold sn_getf at hck
        split at hck
        · rename_i o i r nm d hw
          simp only [Bool.and_eq_true, decide_eq_true_eq] at hck
          obtain ⟨rfl, rfl, hg, hf⟩ := hck
          obtain ⟨C, T, N, c1, c2, c3, c4, c5⟩ := sn_fok_at hf hj
          subst c3; subst c4
          have hr : r0 = (C, T, N) := Option.some.inj (hr0.symm.trans c1)
          subst hr
          obtain ⟨u1, u2, u3, -⟩ := sn_cls ci C T N c1
          obtain ⟨hS, hfc, kC, hkC, hkind⟩ := hK.1.1 ci _ c1
          obtain ⟨cf, kf, fi, f, hi, hsl⟩ := hS j c2
          have hst := (u_facts hfc hkC (u_lays hts u1 c2) hi).1
          have hlay := hts _ (u1 _ (u_in_lay c2))
          unfold u_lay at hlay
          have hsame : ∀ x, s.fieldFound? (T j).1 (T j).2.1 (T j).2.2.1 = some x → s.fieldFound? r (T j).2.1 (T j).2.2.1 = some x := fun x h9 => by
            rcases c5 with c5 | c5
            · rw [← c5]; exact h9
            · exact u_same (hts _ c5) x h9
          obtain ⟨hn, hfit⟩ := sn_okf hokf
          rcases fin C T N c1 with hnf | ⟨hff, hdecl, hin2, -⟩
          · rw [if_neg (by rw [hnf]; decide)] at hlay
            have h6 := u_store hfc hkC hkind hlay hi (u2 j c2) hn hfit
            refine W.putK hx hb (f := f) ⟨hown, hts _ (sn_in hw hg), ⟨_, _, _, hsame _ hi⟩, hst⟩ (by rw [q2]; exact h6) q1 q3 (by rw [hsl]; exact k2_hasslot (q4 j c2)) rfl rfl hdg fun H' e1 e2 e3 => ?_
            rw [hsl] at e1 ⊢
            exact k H' _ (done C T N H' c1 c2 e1 e2 e3) (hloc _)
          · rw [if_pos hff] at hlay
            have hcf : m.cls = cf := by
              obtain ⟨_, _, c', _, _, _, -, -, hf', -, -, -, hown2, -⟩ := Cond.laysFinal_spec hlay
              have e1 : c' = cf := by have := hi.symm.trans hf'; simp at this; exact this.1.symm
              rw [hdecl] at hown2
              rw [← e1]; exact Option.some.inj (hown.symm.trans hown2)
            have h6 := u_fits hfc hkC hkind (Or.inr hlay) hi (u2 j c2) hn hfit
            refine W.putFinK hx hb hown (hts _ (sn_in hw hg)) (hsame _ hi) hst hcf hin2 (by rw [q2]; exact h6) q1 q3 (by rw [hsl]; exact k2_hasslot (q4 j c2)) rfl rfl hdg fun H' e1 e2 e3 => ?_
            rw [hsl] at e1 ⊢
            exact k H' _ (done C T N H' c1 c2 e1 e2 e3) (hloc _)
        · rename_i o i r nm d ho hw
          simp only [Bool.and_eq_true, decide_eq_true_eq] at hck
          obtain ⟨rfl, rfl, hf⟩ := hck
          obtain ⟨C, T, N, c1, c2, c3, c4, c5⟩ := sn_fok_at hf hj
          subst c3; subst c4
          have hr : r0 = (C, T, N) := Option.some.inj (hr0.symm.trans c1)
          subst hr
          obtain ⟨u1, u2, u3, -⟩ := sn_cls ci C T N c1
          obtain ⟨hS, hfc, kC, hkC, hkind⟩ := hK.1.1 ci _ c1
          obtain ⟨cf, kf, fi, f, hi, hsl⟩ := hS j c2
          have hst := (u_facts hfc hkC (u_lays hts u1 c2) hi).1
          have hlay := hts _ (u1 _ (u_in_lay c2))
          unfold u_lay at hlay
          have hsame : ∀ x, s.fieldFound? (T j).1 (T j).2.1 (T j).2.2.1 = some x → s.fieldFound? r (T j).2.1 (T j).2.2.1 = some x := fun x h9 => by
            rcases c5 with c5 | c5
            · rw [← c5]; exact h9
            · exact u_same (hts _ c5) x h9
          obtain ⟨hn, hfit⟩ := sn_okf hokf
          have hnf : (T j).2.2.2 = false := by
            rcases fin C T N c1 with hnf | ⟨-, -, -, hisP⟩
            · exact hnf
            · unfold sn_isP at hisP
              rw [hw] at hisP
              cases hisP
          rw [if_neg (by rw [hnf]; decide)] at hlay
          have h6 := u_store hfc hkC hkind hlay hi (u2 j c2) hn hfit
          have hN := hK.2.2.2.2.2.2.2.2.2 _ (List.mem_of_getElem? hw) rfl
          refine va_WputK hx hb (f := f) hown (va_Nw.use rfl hN) (hsame _ hi) hst (by rw [q2]; exact h6) q1 q3 (by rw [hsl]; exact k2_hasslot (q4 j c2)) rfl rfl hdg fun H' e1 e2 e3 => ?_
          rw [hsl] at e1 ⊢
          exact k H' _ (done C T N H' c1 c2 e1 e2 e3) (hloc _)
        · cases hck
      · cases hv
    · cases hv
  · cases hv
end Mem
end
section
/-! Arrays, new cells, the copy of arrays, statics, casts. -/
section Arr
variable {p : Program} {l : Launch} {e : Env} {R : Room} {s : State} {m : MethodId} {args : Array Value} {below : List Frame} {meth : Method} {c : Code} {H : Heap} {locs : List Loc} {cells slots : Nat} {Q : State → Prop}
variable {cc : ByteArray} {pc : Nat} {ls : Array Slot} {rest : List Value} {a : Nat}
variable {D : va_G} {cyI cyO : ClassId} {H0 : Heap} {b L : Nat} {xs : Nat → Int32} {P : Nat × Nat} {h : am_H}
theorem sn_one {q : Nat × va_E} {D : va_G} {cl : List vw_C} {H : Heap} (hq : va_at D cl q H) : va_P D cl [q] H := fun k z hz => by
  have hk : k < 1 := (List.getElem?_eq_some_iff.mp hz).1
  have : k = 0 := by omega
  subst this
  cases hz
  exact hq
theorem sn_w_iald {i v : Int32} (hx : p.tables.exec = Jvm.exec) (hb : c.code = cc) (hK : sn_K D cyI cyO H0 b L xs P s) (hH : sn_H D cyI cyO H0 b L xs P h H) (hv : am_iald h a i = some v) (hdg : decode cc pc = .ok (.iaload, 1))
    (k : W p l e R s m args below meth c H locs cells slots Q (F0 m (pc + 1) ls (.int v :: rest))) : W p l e R s m args below meth c H locs cells slots Q (F0 m pc ls (.int i :: .ref a :: rest)) := by
  unfold am_iald at hv
  split at hv
  · rename_i n f hc
    cases hi : am_ix i n with
    | none => rw [hi] at hv; cases hv
    | some j =>
      rw [hi] at hv
      cases hv
      obtain ⟨h1, h2⟩ := sn_ix hi
      subst h2
      exact va_iald hx hb hK.1 (sn_one (q := (a, .inl (cyI, n, .inl f))) (hH.at hc).2) 0 0 rfl rfl h1 hdg k
  · rename_i n f hc
    cases hi : am_ix i n with
    | none => rw [hi] at hv; cases hv
    | some j =>
      rw [hi] at hv
      cases hv
      obtain ⟨h1, h2⟩ := sn_ix hi
      subst h2
      obtain ⟨e1, e2, e3⟩ := hH.at hc
      subst e1; subst e2; subst e3
      obtain ⟨scr, g1, g2, g3, g4, g5⟩ := hK.2.1
      have hlt : i.toNatClampNeg < n := Nat.not_le.mp fun q => h1 (Or.inr q)
      exact W.iald (v := .int (f i.toNatClampNeg)) hx hb (by rw [hH.2.2.1 a hK.2.2.1]; exact g1) g2 g3 (by rw [g4]; exact h1) (g5 _ hlt) rfl rfl hdg k
  · cases hv
theorem sn_w_iast {i v : Int32} {h' : am_H} (hx : p.tables.exec = Jvm.exec) (hb : c.code = cc) (hK : sn_K D cyI cyO H0 b L xs P s) (hH : sn_H D cyI cyO H0 b L xs P h H) (hv : am_iast h a i v = some h') (hl : ∀ q ∈ locs, H0.size ≤ q.base) (hdg : decode cc pc = .ok (.iastore, 1))
    (k : ∀ (H1 : Heap) (locs1 : List Loc), sn_H D cyI cyO H0 b L xs P h' H1 → (∀ q ∈ locs1, H0.size ≤ q.base) → W p l e R s m args below meth c H1 locs1 cells slots Q (F0 m (pc + 1) ls rest)) : W p l e R s m args below meth c H locs cells slots Q (F0 m pc ls (.int v :: .int i :: .ref a :: rest)) := by
  unfold am_iast at hv
  split at hv
  · rename_i n f hc
    cases hi : am_ix i n with
    | none => rw [hi] at hv; cases hv
    | some j =>
      rw [hi] at hv
      cases hv
      obtain ⟨h1, h2⟩ := sn_ix hi
      subst h2
      obtain ⟨ha, hcell⟩ := hH.at hc
      refine W.iast hx hb hcell ((hK.1.2 0 _ rfl).1 n (fun j => .int (f j))) (fun q => by cases q) (by show ¬ (i < 0 ∨ (arrV _ _ _).slots.size ≤ _); rw [arrV_size]; exact h1) rfl rfl hdg fun H1 e z oq => ?_
      refine k H1 _ (sn_put hH ha z oq ⟨ha, ?_⟩ (fun ci fs h9 => by rw [hc] at h9; cases h9) (fun n f h9 => by cases h9)) (fun q hq => ?_)
      · rw [e]
        rw [vp_cell_i, vp_cell_i, arrV_store]
        congr 2
        funext q
        by_cases hq : q = i.toNatClampNeg
        · subst hq
          simp [updV, upd]
        · simp [updV, upd, hq]
      · rcases List.mem_append.mp hq with h9 | h9
        · exact hl q h9
        · rw [List.mem_singleton.mp h9]; exact ha
  · cases hv
theorem sn_w_aald {i : Int32} {v : Option Nat} (hx : p.tables.exec = Jvm.exec) (hb : c.code = cc) (hK : sn_K D cyI cyO H0 b L xs P s) (hH : sn_H D cyI cyO H0 b L xs P h H) (hv : am_aald h a i = some v) (hdg : decode cc pc = .ok (.aaload, 1))
    (k : W p l e R s m args below meth c H locs cells slots Q (F0 m (pc + 1) ls (va_rf v :: rest))) : W p l e R s m args below meth c H locs cells slots Q (F0 m pc ls (.int i :: .ref a :: rest)) := by
  unfold am_aald at hv
  split at hv
  · rename_i n f hc
    cases hi : am_ix i n with
    | none => rw [hi] at hv; cases hv
    | some j =>
      rw [hi] at hv
      cases hv
      obtain ⟨h1, h2⟩ := sn_ix hi
      subst h2
      exact va_aldq hx hb hK.1 (sn_one (q := (a, .inl (cyO, n, .inr (.inr (.inr (.inr f)))))) (hH.at hc).2) 0 1 rfl rfl h1 hdg k
  · cases hv
/-- each class of ours but ArrayList goes into an array of objects -/
def sn_casts : Bool := (List.range 10).all (fun ci => decide (ci = 0) || (match p_cl[ci]? with
  | some r => decide (Jvm.Cond.castable r.1 "java/lang/Object" ∈ lw_tbl)
  | none => false))
theorem sn_casts_ok : sn_casts = true := by decide +kernel
theorem sn_cast {ci : Nat} {r : vw_C} (hc : p_cl[ci]? = some r) (h0 : 0 < ci) : Jvm.Cond.castable r.1 "java/lang/Object" ∈ lw_tbl := by
  have hlt : ci < 10 := (List.getElem?_eq_some_iff.mp hc).1
  have h1 := List.all_eq_true.mp sn_casts_ok ci (List.mem_range.mpr hlt)
  simp only [hc, Bool.or_eq_true, decide_eq_true_eq] at h1
  rcases h1 with h1 | h1
  · omega
  · exact h1
/-- what an object of ours is to an array of objects -/
theorem sn_any {y : Nat} (hK : sn_K D cyI cyO H0 b L xs P s) (hH : sn_H D cyI cyO H0 b L xs P h H) (ho : sn_obj h y) : va_Any "java/lang/Object" s H y := by
  obtain ⟨ci, fs, hc, h0⟩ := ho
  obtain ⟨ha, r, hr, hob⟩ := hH.at hc
  have hN := hK.2.2.2.2.2.2.2.2.2 _ (sn_cast hr h0) rfl
  obtain ⟨c0, t1, f1, f2, f3⟩ := Cond.castable_spec (va_Nw.use (A := #[]) rfl hN)
  refine va_rAny (q0 := 0) hK.1 (sn_one (q := (y, .inr (ci, fs))) ⟨r, hr, hob⟩) rfl hr (fun comp c1 g1 g2 => ?_)
  cases f1.symm.trans g2
  cases f2.symm.trans g1
  exact f3
theorem sn_w_aast {i : Int32} {v : Nat} {h' : am_H} (hx : p.tables.exec = Jvm.exec) (hb : c.code = cc) (hK : sn_K D cyI cyO H0 b L xs P s) (hH : sn_H D cyI cyO H0 b L xs P h H) (hv : am_aast h a i v = some h') (hl : ∀ q ∈ locs, H0.size ≤ q.base) (hdg : decode cc pc = .ok (.aastore, 1))
    (k : ∀ (H1 : Heap) (locs1 : List Loc), sn_H D cyI cyO H0 b L xs P h' H1 → (∀ q ∈ locs1, H0.size ≤ q.base) → W p l e R s m args below meth c H1 locs1 cells slots Q (F0 m (pc + 1) ls rest)) : W p l e R s m args below meth c H locs cells slots Q (F0 m pc ls (.ref v :: .int i :: .ref a :: rest)) := by
  unfold am_aast at hv
  split at hv
  · rename_i n f hc
    split at hv
    · rename_i ci fs hcv
      split at hv
      · cases hv
      · rename_i hci
        cases hi : am_ix i n with
        | none => rw [hi] at hv; cases hv
        | some j =>
          rw [hi] at hv
          cases hv
          obtain ⟨h1, h2⟩ := sn_ix hi
          subst h2
          have hob : sn_obj h v := ⟨ci, fs, hcv, by omega⟩
          obtain ⟨ha, hcell⟩ := hH.at hc
          have hlt : i.toNatClampNeg < n := Nat.not_le.mp fun q => h1 (Or.inr q)
          have h0 : ¬ i < 0 := fun q => h1 (Or.inl q)
          obtain ⟨cellV, g1, g2, ⟨kC, g3⟩, g4⟩ := sn_any hK hH hob
          obtain ⟨kA, comp, k1, k2, k3, -⟩ := (hK.1.2 1 _ rfl).2
          obtain ⟨kE, hkE, -⟩ := Vm.findClass_spec k3
          refine W.aast hx hb hcell (fun q h => by cases h) (fun h => by cases h) k1 k2 rfl hkE ⟨h0, by show _ < (arrV _ _ _).slots.size; rw [arrV_size]; exact hlt⟩ g1 (fun q h => by rw [h] at g2; cases g2) g3 (g4 comp k3) rfl rfl hdg fun H1 e z oq => ?_
          refine k H1 _ (sn_put hH ha z oq ⟨ha, ?_⟩ (fun ci fs h9 => by rw [hc] at h9; cases h9) (fun n' f' h9 j y hy => ?_)) (fun q hq => ?_)
          · rw [e]
            rw [vp_cell_q, vp_cell_q, arrV_store]
            congr 2
            funext q
            by_cases hq : q = i.toNatClampNeg
            · subst hq
              simp [updV, va_up, va_rf]
            · simp [updV, va_up, hq]
          · cases h9
            by_cases hj : j = i.toNatClampNeg
            · subst hj
              simp [va_up] at hy
              subst hy
              exact hob
            · simp [va_up, hj] at hy
              exact hH.2.2.2.2 a n f hc j y hy
          · rcases List.mem_append.mp hq with h9 | h9
            · exact hl q h9
            · rw [List.mem_singleton.mp h9]; exact ha
    · cases hv
  · cases hv
theorem sn_w_alen {n : Int32} (hx : p.tables.exec = Jvm.exec) (hb : c.code = cc) (hK : sn_K D cyI cyO H0 b L xs P s) (hH : sn_H D cyI cyO H0 b L xs P h H) (hv : am_alen h a = some n) (hdg : decode cc pc = .ok (.arraylength, 1))
    (k : W p l e R s m args below meth c H locs cells slots Q (F0 m (pc + 1) ls (.int n :: rest))) : W p l e R s m args below meth c H locs cells slots Q (F0 m pc ls (.ref a :: rest)) := by
  unfold am_alen at hv
  split at hv
  · rename_i N f hc
    cases hv
    exact va_alen hx hb hK.1 (sn_one (q := (a, .inl (cyI, N, .inl f))) (hH.at hc).2) 0 0 rfl rfl rfl hdg k
  · rename_i N f hc
    cases hv
    exact va_alen hx hb hK.1 (sn_one (q := (a, .inl (cyO, N, .inr (.inr (.inr (.inr f)))))) (hH.at hc).2) 0 1 rfl rfl rfl hdg k
  · rename_i N f hc
    cases hv
    obtain ⟨e1, e2, e3⟩ := hH.at hc
    subst e1; subst e2; subst e3
    obtain ⟨scr, g1, g2, g3, g4, g5⟩ := hK.2.1
    exact W.alen (n := Int32.ofNat N) hx hb (by rw [hH.2.2.1 a hK.2.2.1]; exact g1) g2 (by rw [g4] <;> rfl) rfl rfl hdg k
  · rename_i hc
    cases hv
    have e1 : a = P.1 := hH.at hc
    subst e1
    obtain ⟨cell, g1, g2, g3⟩ := hK.2.2.2.2.1
    exact W.alen (n := 0) hx hb (by rw [hH.2.2.1 _ hK.2.2.2.2.2.1]; exact g1) g2 g3 rfl rfl hdg k
  · cases hv
theorem sn_w_new {own : String} {idx ci : Nat} {C : String} {T : u_T} {N : Nat} (hx : p.tables.exec = Jvm.exec) (hb : c.code = cc) (hts : ∀ w ∈ sn_gw, w.before args s = true) (hown : s.vm.findClass own = some m.cls) (hK : sn_K D cyI cyO H0 b L xs P s) (hH : sn_H D cyI cyO H0 b L xs P h H) (hc : p_cl[ci]? = some (C, T, N)) (h1 : Jvm.Cond.classLink own idx C ∈ sn_gw) (h2 : Jvm.Cond.instantiable C N ∈ sn_gw) (h3 : Jvm.Cond.initialized C ∈ sn_gw) (hcells : cells + 1 ≤ R.cells) (hslots : slots + N ≤ R.slots) (hdg : decode cc pc = .ok (.new idx, 3))
    (k : ∀ (H1 : Heap), sn_H D cyI cyO H0 b L xs P (ah_new h (p_df ci).length (ac_O ci (p_df ci))) H1 → W p l e R s m args below meth c H1 locs (cells + 1) (slots + N) Q (F0 m (pc + 3) ls (.ref h.1 :: rest))) : W p l e R s m args below meth c H locs cells slots Q (F0 m pc ls rest) := by
  have hKn := hK.1.1 ci _ hc
  obtain ⟨u1, u2, u3, u4, u5⟩ := sn_cls ci C T N hc
  refine W.newcK hx hb hown (hts _ h1) (hts _ h2) (hts _ h3) rfl hdg hcells hslots hKn.2.1 hH.1 fun H1 kC hkC e1 z1 o1 => ?_
  exact k H1 (sn_new hH z1 o1 ⟨hH.2.1, _, hc, (u_born (p_ty ci) hts u1 hKn hkC e1 u2).to u4⟩ (fun n f h9 => by cases h9))
theorem sn_w_newa {n : Int32} (hx : p.tables.exec = Jvm.exec) (hb : c.code = cc) (hK : sn_K D cyI cyO H0 b L xs P s) (hH : sn_H D cyI cyO H0 b L xs P h H) (hts : ∀ w ∈ sn_gw, w.before args s = true) (h1 : Jvm.Cond.arrayClass .int ∈ sn_gw) (hn : ¬ (n.toInt < 0 ∨ 1000000 < n.toInt)) (hcells : cells + 1 ≤ R.cells) (hslots : slots + n.toNatClampNeg ≤ R.slots) (hdg : decode cc pc = .ok (.newarray .int, 2))
    (k : ∀ (H1 : Heap), sn_H D cyI cyO H0 b L xs P (ah_new h n.toNatClampNeg (ac_I n.toNatClampNeg (fun _ => 0))) H1 → W p l e R s m args below meth c H1 locs (cells + 1) (slots + n.toNatClampNeg) Q (F0 m (pc + 2) ls (.ref h.1 :: rest))) : W p l e R s m args below meth c H locs cells slots Q (F0 m pc ls (.int n :: rest)) := by
  have hn0 : ¬ n < 0 := fun q => hn (Or.inl (by simpa using Int32.lt_iff_toInt_lt.mp q))
  have hN : n.toNatClampNeg ≤ 1000000 := by
    show n.toInt.toNat ≤ 1000000
    omega
  refine va_newaK (atype := .int) hx hb (hts _ h1) rfl hdg rfl hn0 rfl (by show n.toNatClampNeg * 4 ≤ _; omega) hcells hslots hH.1 fun H1 cA e1 z1 o1 hAr hNm => ?_
  have hcA : cA = cyI := by
    have h9 : s.vm.findClass ("[" ++ FieldType.int.toString) = some cyI := (hK.1.2 0 _ rfl).2
    exact Option.some.inj (hNm.symm.trans h9)
  subst hcA
  exact k H1 (sn_new hH z1 o1 ⟨hH.2.1, e1⟩ (fun n f h9 => by cases h9))
theorem sn_w_newr {own : String} {idx : Nat} {n : Int32} (hx : p.tables.exec = Jvm.exec) (hb : c.code = cc) (hK : sn_K D cyI cyO H0 b L xs P s) (hH : sn_H D cyI cyO H0 b L xs P h H) (hts : ∀ w ∈ sn_gw, w.before args s = true) (hown : s.vm.findClass own = some m.cls) (h1 : Jvm.Cond.classLink own idx "java/lang/Object" ∈ sn_gw) (hn : ¬ (n.toInt < 0 ∨ 1000000 < n.toInt)) (hcells : cells + 1 ≤ R.cells) (hslots : slots + n.toNatClampNeg ≤ R.slots) (hdg : decode cc pc = .ok (.anewarray idx, 3))
    (k : ∀ (H1 : Heap), sn_H D cyI cyO H0 b L xs P (ah_new h n.toNatClampNeg (ac_R n.toNatClampNeg (fun _ => none))) H1 → W p l e R s m args below meth c H1 locs (cells + 1) (slots + n.toNatClampNeg) Q (F0 m (pc + 3) ls (.ref h.1 :: rest))) : W p l e R s m args below meth c H locs cells slots Q (F0 m pc ls (.int n :: rest)) := by
  have hn0 : ¬ n < 0 := fun q => hn (Or.inl (by simpa using Int32.lt_iff_toInt_lt.mp q))
  have hN : n.toNatClampNeg ≤ 1000000 := by
    show n.toInt.toNat ≤ 1000000
    omega
  refine W.anew hx hb hown (hts _ h1) (va_AO.use hK.2.2.2.2.2.2.2.1) rfl hdg rfl hn0 (by omega) hcells hslots fun cA kA comp f1 f2 f3 f4 => ?_
  have hcA : cA = cyO := by
    obtain ⟨_, _, -, -, -, h9⟩ := (hK.1.2 1 _ rfl).2
    exact Option.some.inj (f1.symm.trans h9)
  subst hcA
  have hsz := hH.1
  have hz : (H.push ({ cls := cA, slots := Array.replicate n.toNatClampNeg .null, vm := .none } : Cell)).size = h.1 + 1 := by rw [Array.size_push, hsz]
  have he : (H.push ({ cls := cA, slots := Array.replicate n.toNatClampNeg .null, vm := .none } : Cell))[h.1]? = some (arrV cA n.toNatClampNeg (fun _ => .null)) := by rw [← hsz, Array.getElem?_push_size, ← arrV_new]
  have ho : ∀ q : Nat, q < h.1 → (H.push ({ cls := cA, slots := Array.replicate n.toNatClampNeg .null, vm := .none } : Cell))[q]? = H[q]? := fun q hq => by rw [Array.getElem?_push, if_neg (by omega)]
  have hk := k _ (sn_new hH hz ho ⟨hH.2.1, by rw [vp_cell_q]; exact he⟩ (fun n f h9 => by cases h9; exact fun _ => rfl))
  rw [← hsz] at hk
  exact hk
end Arr
end
section
/-! System.arraycopy from place 0 to place 0; ArrayList's empty array; casts; getClass of an array; Object(). -/
abbrev sn_gC : MethodName := ⟨"java/lang/Object", "getClass", "()Ljava/lang/Class;"⟩
def sn_globs : List Jvm.Cond := [.native arraycopyName, .static arraycopyName, .initialized "java/lang/System", .instanceMethod Lib.objectInit, .arrayClass .int, .selects "[Ljava/lang/Object;" sn_gC sn_gC, .instanceMethod sn_gC, .native sn_gC]
theorem sn_globs_ok : sn_uok sn_globs = true := by decide +kernel
theorem sn_glob (i : Nat) {w : Jvm.Cond} (h : sn_globs[i]? = some w) : w ∈ sn_gw := sn_uok_in sn_globs_ok w (List.mem_of_getElem? h)
theorem sn_objInit : Jvm.Cond.code Lib.objectInit ⟨#[0xb1]⟩ 1 none ∈ sn_gw := sn_in (ix := 64) rfl rfl
theorem sn_words {rest : List Value} (h : rest.length ≤ 4) : (rest.map fun v => v.category).sum ≤ 8 := by
  have hv : ∀ v : Value, v.category ≤ 2 := by intro v; cases v <;> simp [Value.category]
  have : ∀ r : List Value, (r.map fun v => v.category).sum ≤ 2 * r.length := by
    intro r
    induction r with
    | nil => simp
    | cons v r ih =>
      have := hv v
      simp only [List.map_cons, List.sum_cons, List.length_cons]
      omega
  have := this rest
  omega
section Cpy
variable {p : Program} {l : Launch} {e : Env} {R : Room} {s : State} {m : MethodId} {args : Array Value} {below : List Frame} {meth : Method} {c : Code} {H : Heap} {locs : List Loc} {cells slots : Nat} {Q : State → Prop}
variable {cc : ByteArray} {pc : Nat} {ls : Array Slot} {rest : List Value} {a : Nat}
variable {D : va_G} {cyI cyO : ClassId} {H0 : Heap} {b L : Nat} {xs : Nat → Int32} {P : Nat × Nat} {h : am_H}
theorem sn_w_copy {own : String} {idx a0 : Nat} {n : Int32} {h' : am_H} (hx : p.tables.exec = Jvm.exec) (hb : c.code = cc) (hml : c.maxLocals = ls.size) (hts : ∀ w ∈ sn_gw, w.before args s = true) (hown : s.vm.findClass own = some m.cls) (hK : sn_K D cyI cyO H0 b L xs P s) (hH : sn_H D cyI cyO H0 b L xs P h H) (hlk : Jvm.Cond.methodLink own idx arraycopyName ∈ sn_gw) (hv : am_copy h a0 a n = some h') (hl : ∀ q ∈ locs, H0.size ≤ q.base)
    (hframes : 1 ≤ R.frames) (hlocals : 40 ≤ R.locals) (hrest : rest.length ≤ 4) (hdg : decode cc pc = .ok (.invokestatic idx, 3))
    (k : ∀ (H1 : Heap) (locs1 : List Loc), sn_H D cyI cyO H0 b L xs P h' H1 → (∀ q ∈ locs1, H0.size ≤ q.base) → W p l e R s m args below meth c H1 locs1 cells slots Q (F0 m (pc + 3) ls rest)) : W p l e R s m args below meth c H locs cells slots Q (F0 m pc ls (.int n :: .int 0 :: .ref a :: .int 0 :: .ref a0 :: rest)) := by
  have hwd := sn_words hrest
  have hnw : nativeFrameWords "java/lang/System" "arraycopy" 5 + 11 ≤ 32 := by decide
  have hlocals' : (rest.map fun v => v.category).sum + (nativeFrameWords "java/lang/System" "arraycopy" 5 + 11) ≤ R.locals := by omega
  have z0 : (0 : Int32).toInt = 0 := rfl
  have z1 : (0 : Int32).toNatClampNeg = 0 := rfl
  have z2 : ¬ (0 : Int32) < 0 := by decide
  unfold am_copy at hv
  split at hv
  · cases hv
  · rename_i hne
    have hn3 : ¬ n < 0 := fun q => hne (Or.inr (by simpa using Int32.lt_iff_toInt_lt.mp q))
    have hab : a0 ≠ a := fun q => hne (Or.inl q)
    have hnI : n.toInt = (n.toNatClampNeg : Int) := by
      show n.toInt = ((n.toInt.toNat : Nat) : Int)
      omega
    have hloc : ∀ (L9 : List Loc), (∀ z ∈ L9, z.base = a) → H0.size ≤ a → ∀ q ∈ locs ++ L9, H0.size ≤ q.base := by
      intro L9 h8 h9 q hq
      rcases List.mem_append.mp hq with h7 | h7
      · exact hl q h7
      · rw [h8 q h7]; exact h9
    split at hv
    · rename_i n0 f hc0
      split at hv
      · rename_i n1 g hc1
        split at hv
        · rename_i hle
          cases hv
          obtain ⟨ha0, hm0⟩ := hH.at hc0
          obtain ⟨ha1, hm1⟩ := hH.at hc1
          have h4 : (0 : Int32).toNatClampNeg + n.toNatClampNeg ≤ n0 := by rw [z1]; omega
          intro T hT X
          obtain ⟨-, k0, hk0, cm0, hkk0⟩ := (hK.1.2 0 _ rfl).1 n0 (fun j => .int (f j))
          obtain ⟨-, k1, hk1, cm1, hkk1⟩ := (hK.1.2 0 _ rfl).1 n1 (fun j => .int (g j))
          obtain ⟨vm', X', step⟩ := X.arraycopy hx hown (hts _ hlk) (hts _ (sn_glob 0 rfl)) (hts _ (sn_glob 1 rfl)) (hts _ (sn_glob 2 rfl)) (src := a0) (dst := a) (cs := vp_cell cyI (n0, .inl f)) (cd := vp_cell cyI (n1, .inl g)) (srcPos := 0) (destPos := 0) (n := n) (by rw [hT]; exact hm0) (by rw [hT]; exact hm1)
            (fun _ h => by cases h) (fun _ h => by cases h) (fun h => by cases h) (fun h => by cases h) hk0 hk1 hkk0 hkk1 (by rfl) z2 z2 hn3
            (by rw [z0, hnI]; show ¬ _ > ((arrV cyI n0 (fun j => .int (f j))).slots.size : Int); rw [arrV_size]; omega)
            (by rw [z0, hnI]; show ¬ _ > ((arrV cyI n1 (fun j => .int (g j))).slots.size : Int); rw [arrV_size]; omega)
            (fun vm₁ _ i hi => by
              have e : (vp_cell cyI (n0, .inl f)).slots.getD ((0 : Int32).toNatClampNeg + i) .null = .int (f ((0 : Int32).toNatClampNeg + i)) := by
                show (arrV cyI n0 (fun j => .int (f j))).slots.getD _ _ = _
                rw [Array.getD_eq_getD_getElem?, arrV_read _ _ (by omega)]
                rfl
              refine ⟨?_, ?_⟩
              · rw [e]; rfl
              · rw [e]; exact trivial)
            (g := F0 m pc ls (.int n :: .int 0 :: .ref a :: .int 0 :: .ref a0 :: rest)) rfl (by rw [hml]) (rest := rest) rfl (by rw [hb]; exact hdg) hframes (by show 2 * 0 + _ + _ ≤ _; omega)
          have e1 : copied (vp_cell cyI (n0, .inl f)) (vp_cell cyI (n1, .inl g)) 0 0 n = vp_cell cyI (n1, .inl (va_cpy f g 0 0 n.toNatClampNeg)) := va_copied (fun z => .int z) cyI cyI f g h4
          rw [e1] at X' step
          have hla : a < H.size := (Array.getElem?_eq_some_iff.mp hm1).1
          have hheap : ((T.setVm vm').setCell a (vp_cell cyI (n1, .inl (va_cpy f g 0 0 n.toNatClampNeg)))).heap = H.setIfInBounds a (vp_cell cyI (n1, .inl (va_cpy f g 0 0 n.toNatClampNeg))) := by rw [← hT]; rfl
          have oq : ∀ q : Nat, q ≠ a → (H.setIfInBounds a (vp_cell cyI (n1, .inl (va_cpy f g 0 0 n.toNatClampNeg))))[q]? = H[q]? := fun q hq => by simp [Array.getElem?_setIfInBounds, Ne.symm hq]
          obtain ⟨t, a1, b1⟩ := k _ _ (sn_put hH ha1 (by simp) oq ⟨ha1, by simp [Array.getElem?_setIfInBounds, hla]⟩ (fun ci fs h9 => by rw [hc1] at h9; cases h9) (fun n' f' h9 => by cases h9)) (hloc _ (fun z hz => by
            obtain ⟨z', -, hz'⟩ := List.mem_map.mp hz
            rw [← hz']) ha1) _ hheap X'
          exact ⟨t, step t a1, b1⟩
        · cases hv
      · cases hv
    · rename_i n0 f hc0
      split at hv
      · rename_i n1 g hc1
        split at hv
        · rename_i hle
          cases hv
          obtain ⟨ha0, hm0⟩ := hH.at hc0
          obtain ⟨ha1, hm1⟩ := hH.at hc1
          have h4 : (0 : Int32).toNatClampNeg + n.toNatClampNeg ≤ n0 := by rw [z1]; omega
          intro T hT X
          obtain ⟨-, k0, hk0, cm0, hkk0⟩ := (hK.1.2 1 _ rfl).1 n0 (fun j => va_rf (f j))
          obtain ⟨-, k1, hk1, cm1, hkk1⟩ := (hK.1.2 1 _ rfl).1 n1 (fun j => va_rf (g j))
          obtain ⟨vm', X', step⟩ := X.arraycopy hx hown (hts _ hlk) (hts _ (sn_glob 0 rfl)) (hts _ (sn_glob 1 rfl)) (hts _ (sn_glob 2 rfl)) (src := a0) (dst := a) (cs := vp_cell cyO (n0, .inr (.inr (.inr (.inr f))))) (cd := vp_cell cyO (n1, .inr (.inr (.inr (.inr g))))) (srcPos := 0) (destPos := 0) (n := n) (by rw [hT]; exact hm0) (by rw [hT]; exact hm1)
            (fun _ h => by cases h) (fun _ h => by cases h) (fun h => by cases h) (fun h => by cases h) hk0 hk1 hkk0 hkk1 (by rfl) z2 z2 hn3
            (by rw [z0, hnI]; show ¬ _ > ((arrV cyO n0 (fun j => va_rf (f j))).slots.size : Int); rw [arrV_size]; omega)
            (by rw [z0, hnI]; show ¬ _ > ((arrV cyO n1 (fun j => va_rf (g j))).slots.size : Int); rw [arrV_size]; omega)
            (fun vm₁ hal i hi => by
              have e : (vp_cell cyO (n0, .inr (.inr (.inr (.inr f))))).slots.getD ((0 : Int32).toNatClampNeg + i) .null = va_rf (f ((0 : Int32).toNatClampNeg + i)) := by
                show (arrV cyO n0 (fun j => va_rf (f j))).slots.getD _ _ = _
                rw [Array.getD_eq_getD_getElem?, arrV_read _ _ (by omega)]
                rfl
              rw [e]
              cases hy : f ((0 : Int32).toNatClampNeg + i) with
              | none => exact ⟨rfl, trivial⟩
              | some y =>
                obtain ⟨cellV, g1, g2, ⟨kC, hkC⟩, hasg⟩ := sn_any hK hH (hH.2.2.2.2 a0 n0 f hc0 _ y hy)
                obtain ⟨kA, comp, r1, r2, r3, -⟩ := (hK.1.2 1 _ rfl).2
                cases hk1.symm.trans r1
                cases hkk1.symm.trans r2
                obtain ⟨kE, hkE, -⟩ := Vm.findClass_spec r3
                obtain ⟨kC', hkC', -⟩ := hal.2.2 _ _ hkC
                obtain ⟨kE', hkE', -⟩ := hal.2.2 _ _ hkE
                refine ⟨rfl, cellV, (show T.heap[y]? = some cellV by rw [hT]; exact g1), (fun q h => by rw [h] at g2; cases g2), ⟨kC', hkC'⟩, ?_, ?_⟩
                · exact ⟨kE', hkE'⟩
                · show vm₁.assignable _ _ = true
                  rw [hal.assignable]
                  exact hasg _ r3)
            (g := F0 m pc ls (.int n :: .int 0 :: .ref a :: .int 0 :: .ref a0 :: rest)) rfl (by rw [hml]) (rest := rest) rfl (by rw [hb]; exact hdg) hframes (by show 2 * 0 + _ + _ ≤ _; omega)
          have e1 : copied (vp_cell cyO (n0, .inr (.inr (.inr (.inr f))))) (vp_cell cyO (n1, .inr (.inr (.inr (.inr g))))) 0 0 n = vp_cell cyO (n1, .inr (.inr (.inr (.inr (va_cpy f g 0 0 n.toNatClampNeg))))) := by
            rw [vp_cell_q, vp_cell_q, vp_cell_q]
            exact va_copied (fun z => va_rf z) cyO cyO f g h4
          rw [e1] at X' step
          have hla : a < H.size := (Array.getElem?_eq_some_iff.mp hm1).1
          have hheap : ((T.setVm vm').setCell a (vp_cell cyO (n1, .inr (.inr (.inr (.inr (va_cpy f g 0 0 n.toNatClampNeg))))))).heap = H.setIfInBounds a (vp_cell cyO (n1, .inr (.inr (.inr (.inr (va_cpy f g 0 0 n.toNatClampNeg)))))) := by rw [← hT]; rfl
          have oq : ∀ q : Nat, q ≠ a → (H.setIfInBounds a (vp_cell cyO (n1, .inr (.inr (.inr (.inr (va_cpy f g 0 0 n.toNatClampNeg)))))))[q]? = H[q]? := fun q hq => by simp [Array.getElem?_setIfInBounds, Ne.symm hq]
          obtain ⟨t, a1, b1⟩ := k _ _ (sn_put hH ha1 (by simp) oq ⟨ha1, by simp [Array.getElem?_setIfInBounds, hla]⟩ (fun ci fs h9 => by rw [hc1] at h9; cases h9) (fun n' f' h9 j y hy => by
            cases h9
            by_cases hj : 0 ≤ j ∧ j < 0 + n.toNatClampNeg
            · unfold va_cpy at hy
              rw [if_pos hj] at hy
              exact hH.2.2.2.2 a0 n0 f hc0 _ y hy
            · unfold va_cpy at hy
              rw [if_neg hj] at hy
              exact hH.2.2.2.2 a n1 g hc1 _ y hy)) (hloc _ (fun z hz => by
            obtain ⟨z', -, hz'⟩ := List.mem_map.mp hz
            rw [← hz']) ha1) _ hheap X'
          exact ⟨t, step t a1, b1⟩
        · cases hv
      · cases hv
    · cases hv
theorem sn_w_stat {own : String} {idx : Nat} (hx : p.tables.exec = Jvm.exec) (hb : c.code = cc) (hts : ∀ w ∈ sn_gw, w.before args s = true) (hown : s.vm.findClass own = some m.cls) (hK : sn_K D cyI cyO H0 b L xs P s) (hH : sn_H D cyI cyO H0 b L xs P h H) (hlk : Jvm.Cond.fieldLink own idx "java/util/ArrayList" "DEFAULTCAPACITY_EMPTY_ELEMENTDATA" "[Ljava/lang/Object;" ∈ sn_gw) (hdg : decode cc pc = .ok (.getstatic idx, 3))
    (k : W p l e R s m args below meth c H locs cells slots Q (F0 m (pc + 3) ls (.ref P.1 :: rest))) : W p l e R s m args below meth c H locs cells slots Q (F0 m pc ls rest) := by
  obtain ⟨cf, kf, fi, f, a, cell, h1, h2, h3, h4, h5, h6, h7, h8⟩ := hK.2.2.2.1
  exact W.gets hx hb hown (hts _ hlk) h1 h2 h3 h4 (by rw [hH.2.2.1 a (Array.getElem?_eq_some_iff.mp h5).1]; exact h5) (fun e => by rw [e] at h6; cases h6) h7 rfl hdg k
theorem sn_recv {ci : Nat} {C : String} {T : u_T} {N : Nat} (hK : sn_K D cyI cyO H0 b L xs P s) (hH : sn_H D cyI cyO H0 b L xs P h H) (hc : p_cl[ci]? = some (C, T, N)) (ha : am_cls h a = some ci) : ∃ cell : Cell, H[a]? = some cell ∧ cell.vm.isStatics = false ∧ s.vm.findClass C = some cell.cls := by
  unfold am_cls at ha
  split at ha
  · rename_i ci' fs hcell
    cases ha
    exact va_recv (q0 := 0) hK.1 (sn_one (q := (a, .inr (ci, fs))) (hH.at hcell).2) hc rfl
  · cases ha
theorem sn_w_cast {own : String} {idx ci : Nat} {C : String} {T : u_T} {N : Nat} (hx : p.tables.exec = Jvm.exec) (hb : c.code = cc) (hts : ∀ w ∈ sn_gw, w.before args s = true) (hown : s.vm.findClass own = some m.cls) (hK : sn_K D cyI cyO H0 b L xs P s) (hH : sn_H D cyI cyO H0 b L xs P h H) (hc : p_cl[ci]? = some (C, T, N)) (hlk : Jvm.Cond.classLink own idx C ∈ sn_gw) (ha : am_cls h a = some ci) (hdg : decode cc pc = .ok (.checkcast idx, 3))
    (k : W p l e R s m args below meth c H locs cells slots Q (F0 m (pc + 3) ls (.ref a :: rest))) : W p l e R s m args below meth c H locs cells slots Q (F0 m pc ls (.ref a :: rest)) :=
  va_castS hx hb hown (hts _ hlk) (hK.1.1 ci _ hc).2 (sn_recv hK hH hc ha) hdg k
theorem sn_w_getC {own : String} {idx n : Nat} {f : Nat → Option Nat} (hx : p.tables.exec = Jvm.exec) (hb : c.code = cc) (hml : c.maxLocals = ls.size) (hts : ∀ w ∈ sn_gw, w.before args s = true) (hown : s.vm.findClass own = some m.cls) (hK : sn_K D cyI cyO H0 b L xs P s) (hH : sn_H D cyI cyO H0 b L xs P h H) (hlk : Jvm.Cond.methodLink own idx sn_gC ∈ sn_gw) (ha : h.2.2 a = ac_R n f) (hframes : 1 ≤ R.frames) (hlocals : 40 ≤ R.locals) (hrest : rest.length ≤ 4) (hdg : decode cc pc = .ok (.invokevirtual idx, 3))
    (k : W p l e R s m args below meth c H locs cells slots Q (F0 m (pc + 3) ls (.ref P.2 :: rest))) : W p l e R s m args below meth c H locs cells slots Q (F0 m pc ls (.ref a :: rest)) := by
  have hwd := sn_words hrest
  refine va_getC hx hb hml hown (hts _ hlk) (va_Dc.use hK.2.2.2.2.2.2.2.2.1) (hts _ (sn_glob 5 rfl)) (hts _ (sn_glob 6 rfl)) (hts _ (sn_glob 7 rfl)) hK.2.2.2.2.2.2.1 ⟨_, (hH.at ha).2, rfl, ?_⟩ hframes (by omega) hdg k
  obtain ⟨_, _, -, -, -, h9⟩ := (hK.1.2 1 _ rfl).2
  exact h9
end Cpy
end
section
/-! What is checked of each instruction of the tables, and of each method. -/
def sn_mem (w : Jvm.Cond) : Bool := decide (w ∈ lw_tbl) && goodWord w
theorem sn_mem_in {w : Jvm.Cond} (h : sn_mem w = true) : w ∈ sn_gw := by
  simp only [sn_mem, Bool.and_eq_true, decide_eq_true_eq] at h
  exact sn_inM h.1 h.2
def sn_len (i : Instr) : Nat := match i with
  | .bipush _ => 2
  | .sipush _ => 3
  | .ldc _ => 2
  | .ldc2_w _ => 3
  | .iload _ => 2
  | .aload _ => 2
  | .istore _ => 2
  | .astore _ => 2
  | .iinc .. => 3
  | .goto _ => 3
  | .ifCond .. => 3
  | .if_icmp .. => 3
  | .if_acmp .. => 3
  | .ifnull _ => 3
  | .ifnonnull _ => 3
  | .getfield _ => 3
  | .putfield _ => 3
  | .getstatic _ => 3
  | .new _ => 3
  | .newarray _ => 2
  | .anewarray _ => 3
  | .checkcast _ => 3
  | .invokestatic _ => 3
  | .invokespecial _ => 3
  | .invokevirtual _ => 3
  | _ => 1
def sn_notMH (c : String) : Bool := decide (c ≠ "java/lang/invoke/MethodHandle") && decide (c ≠ "java/lang/invoke/VarHandle")
/-- a callee: room, arguments -/
def sn_ckC (M N : am_M) (na ml : Nat) : Bool := decide (N.2.2.2.2.1 + 1 ≤ M.2.2.2.2.1) && (decide (8 + (N.2.2.1 + 11) + N.2.2.2.2.2 ≤ M.2.2.2.2.2) && (decide ((parseMethodDescriptor N.1.desc).map (fun d => d.parameters.length) = some na) && (decide (ml ≤ N.2.2.1) && (sn_notMH N.1.cls && sn_mem (.initialized N.1.cls)))))
def sn_ckS (M : am_M) (idx : Nat) (x : am_X) : Bool := match p_ms[x.1]? with
  | none => false
  | some N => sn_ckC M N x.2.1 x.2.1 && (sn_mem (.static N.1) && (if x.2.2.2.1 = 0 then sn_mem (.methodLink M.1.cls idx N.1) else match lw_tbl[x.2.2.2.2]? with
    | some (.methodLinkNest o i z _) => decide (o = M.1.cls) && (decide (i = idx) && decide (z = N.1))
    | _ => false))
def sn_ckI (M : am_M) (idx : Nat) (x : am_X) : Bool := match p_ms[x.1]? with
  | none => false
  | some N => sn_ckC M N x.2.1 (x.2.1 + 1) && (sn_mem (.instanceMethod N.1) && (decide (N.1.name = "<init>") && (decide (N.2.2.2.1 = none) && (if x.2.2.2.1 = 2 then sn_mem (.methodLink M.1.cls idx N.1) else match lw_tbl[x.2.2.2.2]? with
    | some (.methodLinkNest o i z _) => decide (o = M.1.cls) && (decide (i = idx) && decide (z = N.1))
    | _ => false))))
def sn_ckV (M : am_M) (idx : Nat) (x : am_X) : Bool := match p_ms[x.1]? with
  | none => false
  | some N => sn_ckC M N x.2.1 (x.2.1 + 1) && (sn_mem (.instanceMethod N.1) && (if x.2.2.2.1 = 4 then sn_mem (.methodLink M.1.cls idx N.1) && x.2.2.1.all (fun q => match p_cl[q.1]? with
      | some r => decide (r.1 = N.1.cls) && sn_mem (.selects r.1 N.1 N.1)
      | none => false)
    else match lw_tbl[x.2.2.2.2]? with
    | some (.methodLink o i z) => decide (o = M.1.cls) && (decide (i = idx) && (goodWord (.methodLink o i z) && (decide (N.1 = ⟨N.1.cls, z.name, z.desc⟩) && (sn_mem (.sameMethod z.cls N.1.cls z.name z.desc) && x.2.2.1.all (fun q => match p_cl[q.1]? with
      | some r => sn_mem (.selects r.1 z N.1)
      | none => false)))))
    | _ => false))
def sn_ck (M : am_M) (pc : Nat) (i : Instr) (x : am_X) : Bool := match i with
  | .goto off => decide ((pc : Int) + off = (x.1 : Int))
  | .ifCond _ off => decide ((pc : Int) + off = (x.1 : Int))
  | .if_icmp _ off => decide ((pc : Int) + off = (x.1 : Int))
  | .if_acmp _ off => decide ((pc : Int) + off = (x.1 : Int))
  | .ifnull off => decide ((pc : Int) + off = (x.1 : Int))
  | .ifnonnull off => decide ((pc : Int) + off = (x.1 : Int))
  | .tableswitch d lo hi offs => decide (lo = 0) && (decide ((pc : Int) + d = (x.1 : Int)) && (decide (hi + 1 = (offs.size : Int)) && (decide (x.2.2.1.length = offs.size) && (decide (offs.size ≤ 1000) && (List.range offs.size).all (fun j => match offs[j]?, x.2.2.1[j]? with
    | some o, some q => decide (q.1 = j) && decide ((pc : Int) + o = (q.2 : Int))
    | _, _ => false)))))
  | .getfield idx => sn_getf M.1.cls idx x.2.2.1 x.2.2.2.2
  | .putfield idx => sn_putf M.1.cls M.1.name idx x.2.2.1 x.2.2.2.2
  | .getstatic idx => sn_mem (.fieldLink M.1.cls idx "java/util/ArrayList" "DEFAULTCAPACITY_EMPTY_ELEMENTDATA" "[Ljava/lang/Object;")
  | .new idx => match p_cl[x.1]? with
    | some r => sn_mem (.classLink M.1.cls idx r.1) && (sn_mem (.instantiable r.1 r.2.2) && sn_mem (.initialized r.1))
    | none => false
  | .newarray t => decide (t = .int)
  | .anewarray idx => sn_mem (.classLink M.1.cls idx "java/lang/Object")
  | .checkcast idx => match p_cl[x.1]? with
    | some r => sn_mem (.classLink M.1.cls idx r.1)
    | none => false
  | .ldc idx => if x.1 = 1 then sn_mem (.classLink M.1.cls idx "[Ljava/lang/Object;") else sn_mem (.constant M.1.cls idx (Int32.ofInt x.2.2.2.1))
  | .ldc2_w idx => sn_mem (.constantLong M.1.cls idx (Int64.ofInt x.2.2.2.1))
  | .lreturn => decide (M.2.2.2.1 = some .long)
  | .areturn => match M.2.2.2.1 with
    | some (.object _) => true
    | some (.array _) => true
    | _ => false
  | .return_ => decide (M.2.2.2.1 = none)
  | .invokestatic idx => if x.2.2.2.1 = 11 then sn_mem (.methodLink M.1.cls idx arraycopyName) && (decide (1 ≤ M.2.2.2.2.1) && decide (40 ≤ M.2.2.2.2.2)) else sn_ckS M idx x
  | .invokespecial idx => if x.2.2.2.1 = 10 then sn_mem (.methodLink M.1.cls idx Lib.objectInit) && (decide (1 ≤ M.2.2.2.2.1) && decide (20 ≤ M.2.2.2.2.2)) else sn_ckI M idx x
  | .invokevirtual idx => if x.2.2.2.1 = 13 then sn_mem (.methodLink M.1.cls idx sn_gC) && (decide (1 ≤ M.2.2.2.2.1) && decide (40 ≤ M.2.2.2.2.2)) else sn_ckV M idx x
  | _ => true
def sn_isSw (i : Instr) : Bool := match i with
  | .tableswitch .. => true
  | _ => false
def sn_row (M : am_M) (r : Nat × Instr × Nat × am_X) : Bool := decide (decode M.2.1 r.1 = .ok (r.2.1, r.2.2.1)) && ((sn_isSw r.2.1 || decide (r.2.2.1 = sn_len r.2.1)) && sn_ck M r.1 r.2.1 r.2.2.2)
end
section
/-! Printed by a program of ours: the checks of the tables, decided by the kernel, method by method. -/
theorem q_r0 : p_tb0.all (sn_row (p_y0, prog_2_method_1_code, 1, none, 1, 20)) = true := by decide +kernel
theorem q_r1 : p_tb1.all (sn_row (p_y1, prog_2_method_2_code, 2, none, 0, 0)) = true := by decide +kernel
theorem q_r2 : p_tb2.all (sn_row (p_y2, prog_2_method_3_code, 3, some .boolean, 0, 0)) = true := by decide +kernel
theorem q_r3 : p_tb3.all (sn_row (p_y3, prog_2_method_4_code, 1, some .int, 0, 0)) = true := by decide +kernel
theorem q_r4 : p_tb4.all (sn_row (p_y4, prog_2_method_5_code, 2, none, 0, 0)) = true := by decide +kernel
theorem q_r5 : p_tb5.all (sn_row (p_y5, prog_3_method_1_code, 1, none, 2, 42)) = true := by decide +kernel
theorem q_r6 : p_tb6.all (sn_row (p_y6, prog_3_method_2_code, 7, none, 3, 83)) = true := by decide +kernel
theorem q_r7 : p_tb7.all (sn_row (p_y7, prog_4_method_1_code, 1, none, 2, 42)) = true := by decide +kernel
theorem q_r8 : p_tb8.all (sn_row (p_y8, prog_4_method_2_code, 6, some .boolean, 3, 83)) = true := by decide +kernel
theorem q_r9 : p_tb9.all (sn_row (p_y9, prog_4_method_3_code, 5, some .boolean, 2, 44)) = true := by decide +kernel
theorem q_r10 : p_tb10.all (sn_row (p_y10, prog_5_method_1_code, 3, none, 4, 80)) = true := by decide +kernel
theorem q_r11 : p_tb11.all (sn_row (p_y11, prog_5_method_2_code, 3, some .boolean, 0, 0)) = true := by decide +kernel
theorem q_r12 : p_tb12.all (sn_row (p_y12, prog_5_method_3_code, 2, some (.object "TwoStepOutputs$Part"), 3, 64)) = true := by decide +kernel
theorem q_r13 : p_tb13.all (sn_row (p_y13, prog_5_method_4_code, 3, some .int, 3, 64)) = true := by decide +kernel
theorem q_r14 : p_tb14.all (sn_row (p_y14, prog_5_method_5_code, 1, some .boolean, 0, 0)) = true := by decide +kernel
theorem q_r15 : p_tb15.all (sn_row (p_y15, prog_5_method_6_code, 3, some .boolean, 5, 108)) = true := by decide +kernel
theorem q_r16 : p_tb16.all (sn_row (p_y16, prog_5_method_7_code, 4, some .boolean, 4, 85)) = true := by decide +kernel
theorem q_r17 : p_tb17.all (sn_row (p_y17, prog_5_method_8_code, 4, some .boolean, 4, 85)) = true := by decide +kernel
theorem q_r18 : p_tb18.all (sn_row (p_y18, prog_5_method_9_code, 3, some .boolean, 4, 85)) = true := by decide +kernel
theorem q_r19 : p_tb19.all (sn_row (p_y19, prog_5_method_10_code, 6, some .boolean, 3, 64)) = true := by decide +kernel
theorem q_r20 : p_tb20.all (sn_row (p_y20, prog_6_method_1_code, 3, none, 1, 20)) = true := by decide +kernel
theorem q_r21 : p_tb21.all (sn_row (p_y21, prog_7_method_1_code, 2, none, 1, 20)) = true := by decide +kernel
theorem q_r22 : p_tb22.all (sn_row (p_y22, prog_7_method_2_code, 4, some .int, 2, 44)) = true := by decide +kernel
theorem q_r23 : p_tb23.all (sn_row (p_y23, prog_8_method_1_code, 2, none, 1, 21)) = true := by decide +kernel
theorem q_r24 : p_tb24.all (sn_row (p_y24, prog_8_method_2_code, 1, some .int, 0, 0)) = true := by decide +kernel
theorem q_r25 : p_tb25.all (sn_row (p_y25, prog_8_method_3_code, 3, some .boolean, 0, 0)) = true := by decide +kernel
theorem q_r26 : p_tb26.all (sn_row (p_y26, prog_8_method_4_code, 3, some .int, 1, 22)) = true := by decide +kernel
theorem q_r27 : p_tb27.all (sn_row (p_y27, prog_8_method_5_code, 4, none, 1, 22)) = true := by decide +kernel
theorem q_r28 : p_tb28.all (sn_row (p_y28, prog_8_method_6_code, 2, some .int, 2, 62)) = true := by decide +kernel
theorem q_r29 : p_tb29.all (sn_row (p_y29, prog_9_method_1_code, 1, none, 1, 23)) = true := by decide +kernel
theorem q_r30 : p_tb30.all (sn_row (p_y30, prog_9_method_2_code, 2, some .boolean, 1, 20)) = true := by decide +kernel
theorem q_r31 : p_tb31.all (sn_row (p_y31, prog_9_method_3_code, 6, some .boolean, 2, 41)) = true := by decide +kernel
theorem q_r32 : p_tb32.all (sn_row (p_y32, prog_1_method_1_code, 1, none, 4, 80)) = true := by decide +kernel
theorem q_r33 : p_tb33.all (sn_row (p_y33, prog_1_method_2_code, 3, some .int, 7, 171)) = true := by decide +kernel
theorem q_r34 : p_tb34.all (sn_row (p_y34, prog_1_method_3_code, 5, some .int, 4, 85)) = true := by decide +kernel
theorem q_r35 : p_tb35.all (sn_row (p_y35, prog_1_method_4_code, 3, some .int, 9, 220)) = true := by decide +kernel
theorem q_r36 : p_tb36.all (sn_row (p_y36, prog_1_method_5_code, 2, some .int, 9, 209)) = true := by decide +kernel
theorem q_r37 : p_tb37.all (sn_row (p_y37, prog_1_method_6_code, 1, some .int, 9, 209)) = true := by decide +kernel
theorem q_r38 : p_tb38.all (sn_row (p_y38, prog_1_method_7_code, 3, some .int, 8, 184)) = true := by decide +kernel
theorem q_r39 : p_tb39.all (sn_row (p_y39, prog_1_method_8_code, 3, some .int, 9, 220)) = true := by decide +kernel
theorem q_r40 : p_tb40.all (sn_row (p_y40, prog_1_method_9_code, 5, some .int, 4, 85)) = true := by decide +kernel
theorem q_r41 : p_tb41.all (sn_row (p_y41, prog_1_method_10_code, 2, some .int, 0, 0)) = true := by decide +kernel
theorem q_r42 : p_tb42.all (sn_row (p_y42, prog_1_method_11_code, 2, some .int, 9, 209)) = true := by decide +kernel
theorem q_r43 : p_tb43.all (sn_row (p_y43, prog_1_method_12_code, 4, some .int, 4, 86)) = true := by decide +kernel
theorem q_r44 : p_tb44.all (sn_row (p_y44, prog_1_method_13_code, 6, some .int, 4, 85)) = true := by decide +kernel
theorem q_r45 : p_tb45.all (sn_row (p_y45, prog_1_method_14_code, 5, some .long, 4, 85)) = true := by decide +kernel
theorem q_r46 : p_tb46.all (sn_row (p_y46, prog_1_method_15_code, 5, some .long, 4, 85)) = true := by decide +kernel
theorem q_r47 : p_tb47.all (sn_row (p_y47, prog_1_method_16_code, 3, some .int, 7, 171)) = true := by decide +kernel
theorem q_r48 : p_tb48.all (sn_row (p_y48, prog_1_method_17_code, 4, some .int, 4, 85)) = true := by decide +kernel
theorem q_r49 : p_tb49.all (sn_row (p_y49, prog_1_method_18_code, 4, some .int, 4, 85)) = true := by decide +kernel
theorem q_r50 : p_tb50.all (sn_row (p_y50, prog_1_method_19_code, 3, some .int, 2, 44)) = true := by decide +kernel
theorem q_r51 : p_tb51.all (sn_row (p_y51, prog_1_method_20_code, 2, some .int, 2, 41)) = true := by decide +kernel
theorem q_r52 : p_tb52.all (sn_row (p_y52, prog_1_method_21_code, 7, some .int, 6, 130)) = true := by decide +kernel
theorem q_r53 : p_tb53.all (sn_row (p_y53, prog_1_method_22_code, 2, some (.object "TwoStepOutputs$Output"), 3, 64)) = true := by decide +kernel
theorem q_r54 : p_tb54.all (sn_row (p_y54, prog_1_method_23_code, 2, some (.object "TwoStepOutputs$Reader"), 3, 64)) = true := by decide +kernel
theorem q_r55 : p_tb55.all (sn_row (p_y55, prog_1_method_24_code, 1, some .boolean, 0, 0)) = true := by decide +kernel
theorem q_r56 : p_tb56.all (sn_row (p_y56, prog_1_method_25_code, 1, some .boolean, 0, 0)) = true := by decide +kernel
theorem q_r57 : p_tb57.all (sn_row (p_y57, prog_1_method_26_code, 1, some .int, 1, 21)) = true := by decide +kernel
theorem q_r58 : p_tb58.all (sn_row (p_y58, prog_1_method_27_code, 1, some .boolean, 4, 85)) = true := by decide +kernel
theorem q_r59 : p_tb59.all (sn_row (p_y59, prog_1_method_28_code, 2, none, 3, 64)) = true := by decide +kernel
theorem q_r60 : p_tb60.all (sn_row (p_y60, prog_1_method_29_code, 6, some .boolean, 5, 109)) = true := by decide +kernel
theorem q_r61 : p_tb61.all (sn_row (p_y61, prog_1_method_30_code, 2, some .int, 4, 87)) = true := by decide +kernel
theorem q_r62 : p_tb62.all (sn_row (p_y62, prog_1_method_31_code, 4, some .int, 3, 64)) = true := by decide +kernel
theorem q_r63 : p_tb63.all (sn_row (p_y63, prog_1_method_32_code, 6, some .int, 8, 195)) = true := by decide +kernel
theorem q_r64 : p_tb64.all (sn_row (p_y64, prog_1_method_33_code, 5, some .boolean, 7, 171)) = true := by decide +kernel
theorem q_r65 : p_tb65.all (sn_row (p_y65, prog_1_method_34_code, 3, some .boolean, 6, 134)) = true := by decide +kernel
theorem q_r66 : p_tb66.all (sn_row (p_y66, prog_1_method_35_code, 4, some .int, 8, 186)) = true := by decide +kernel
theorem q_r67 : p_tb67.all (sn_row (p_y67, prog_1_method_36_code, 6, some .int, 7, 161)) = true := by decide +kernel
theorem q_r68 : p_tb68.all (sn_row (p_y68, prog_1_method_37_code, 8, some .int, 6, 134)) = true := by decide +kernel
theorem q_r69 : p_tb69.all (sn_row (p_y69, prog_1_method_38_code, 6, some .int, 7, 159)) = true := by decide +kernel
theorem q_r70 : p_tb70.all (sn_row (p_y70, prog_1_method_39_code, 6, some .int, 6, 134)) = true := by decide +kernel
end
section
/-! Printed by a program of ours: the checks of the tables, decided by the kernel, method by method. -/
theorem q_r71 : p_tb71.all (sn_row (p_y71, prog_11_method_1_code, 2, none, 1, 20)) = true := by decide +kernel
theorem q_r72 : p_tb72.all (sn_row (p_y72, prog_11_method_2_code, 2, some .int, 0, 0)) = true := by decide +kernel
theorem q_r73 : p_tb73.all (sn_row (p_y73, prog_11_method_3_code, 2, some .int, 0, 0)) = true := by decide +kernel
theorem q_r74 : p_tb74.all (sn_row (p_y74, prog_11_method_4_code, 3, some .boolean, 0, 0)) = true := by decide +kernel
theorem q_r75 : p_tb75.all (sn_row (p_y75, prog_11_method_5_code, 2, some .boolean, 1, 22)) = true := by decide +kernel
theorem q_r76 : p_tb76.all (sn_row (p_y76, prog_11_method_6_code, 1, some .boolean, 1, 21)) = true := by decide +kernel
theorem q_r77 : p_tb77.all (sn_row (p_y77, prog_11_method_7_code, 2, none, 0, 0)) = true := by decide +kernel
theorem q_r78 : p_tb78.all (sn_row (p_y78, prog_11_method_8_code, 6, some .boolean, 2, 41)) = true := by decide +kernel
theorem q_r79 : p_tb79.all (sn_row (p_y79, prog_11_method_9_code, 5, some .int, 0, 0)) = true := by decide +kernel
theorem q_r80 : p_tb80.all (sn_row (p_y80, prog_11_method_10_code, 5, some .int, 0, 0)) = true := by decide +kernel
theorem q_r81 : p_tb81.all (sn_row (p_y81, prog_11_method_11_code, 4, some .int, 0, 0)) = true := by decide +kernel
theorem q_r82 : p_tb82.all (sn_row (p_y82, prog_11_method_12_code, 2, some .int, 1, 22)) = true := by decide +kernel
theorem q_r83 : p_tb83.all (sn_row (p_y83, prog_11_method_13_code, 5, some .int, 2, 43)) = true := by decide +kernel
theorem q_r84 : p_tb84.all (sn_row (p_y84, prog_11_method_14_code, 1, some .int, 1, 21)) = true := by decide +kernel
theorem q_r85 : p_tb85.all (sn_row (p_y85, prog_11_method_15_code, 5, some .int, 2, 41)) = true := by decide +kernel
theorem q_r86 : p_tb86.all (sn_row (p_y86, prog_11_method_16_code, 7, some .int, 3, 66)) = true := by decide +kernel
theorem q_r87 : p_tb87.all (sn_row (p_y87, prog_11_method_17_code, 3, some .int, 4, 92)) = true := by decide +kernel
theorem q_r88 : p_tb88.all (sn_row (p_y88, prog_11_method_18_code, 4, some .int, 5, 117)) = true := by decide +kernel
theorem q_r89 : p_tb89.all (sn_row (p_y89, prog_11_method_19_code, 1, some .int, 5, 117)) = true := by decide +kernel
theorem q_r90 : p_tb90.all (sn_row (p_y90, prog_11_method_20_code, 6, some .int, 4, 92)) = true := by decide +kernel
theorem q_r91 : p_tb91.all (sn_row (p_y91, prog_11_method_21_code, 7, some .int, 3, 66)) = true := by decide +kernel
theorem q_r92 : p_tb92.all (sn_row (p_y92, prog_11_method_22_code, 7, some .int, 0, 0)) = true := by decide +kernel
theorem q_r93 : p_tb93.all (sn_row (p_y93, prog_11_method_23_code, 6, some .int, 0, 0)) = true := by decide +kernel
theorem q_r94 : p_tb94.all (sn_row (p_y94, prog_11_method_24_code, 6, some .int, 3, 66)) = true := by decide +kernel
theorem q_r95 : p_tb95.all (sn_row (p_y95, prog_11_method_25_code, 5, some .int, 4, 91)) = true := by decide +kernel
theorem q_r96 : p_tb96.all (sn_row (p_y96, prog_11_method_26_code, 3, some .int, 5, 117)) = true := by decide +kernel
theorem q_r97 : p_tb97.all (sn_row (p_y97, prog_11_method_27_code, 4, some .int, 2, 43)) = true := by decide +kernel
theorem q_r98 : p_tb98.all (sn_row (p_y98, prog_11_method_28_code, 2, some .int, 1, 22)) = true := by decide +kernel
theorem q_r99 : p_tb99.all (sn_row (p_y99, prog_11_method_29_code, 3, some .int, 5, 117)) = true := by decide +kernel
theorem q_r100 : p_tb100.all (sn_row (p_y100, prog_11_method_30_code, 6, some .int, 2, 43)) = true := by decide +kernel
theorem q_r101 : p_tb101.all (sn_row (p_y101, prog_11_method_31_code, 4, some .int, 2, 43)) = true := by decide +kernel
theorem q_r102 : p_tb102.all (sn_row (p_y102, prog_11_method_32_code, 5, some .long, 2, 43)) = true := by decide +kernel
theorem q_r103 : p_tb103.all (sn_row (p_y103, prog_11_method_33_code, 5, some .long, 2, 43)) = true := by decide +kernel
theorem q_r104 : p_tb104.all (sn_row (p_y104, prog_11_method_34_code, 2, some .int, 2, 43)) = true := by decide +kernel
theorem q_r105 : p_tb105.all (sn_row (p_y105, prog_11_method_35_code, 4, some .int, 1, 22)) = true := by decide +kernel
theorem q_r106 : p_tb106.all (sn_row (p_y106, prog_11_method_36_code, 5, some .int, 1, 22)) = true := by decide +kernel
theorem q_r107 : p_tb107.all (sn_row (p_y107, prog_11_method_37_code, 3, some .int, 1, 22)) = true := by decide +kernel
theorem q_r108 : p_tb108.all (sn_row (p_y108, prog_11_method_38_code, 2, some .int, 2, 41)) = true := by decide +kernel
theorem q_r109 : p_tb109.all (sn_row (p_y109, prog_11_method_39_code, 7, some .int, 1, 25)) = true := by decide +kernel
theorem q_r110 : p_tb110.all (sn_row (p_y110, prog_11_method_40_code, 6, some .int, 0, 0)) = true := by decide +kernel
theorem q_r111 : p_tb111.all (sn_row (p_y111, prog_15_method_65_code, 2, some .int, 0, 0)) = true := by decide +kernel
theorem q_r112 : p_tb112.all (sn_row (p_y112, prog_15_method_69_code, 2, some .int, 0, 0)) = true := by decide +kernel
theorem q_r113 : p_tb113.all (sn_row (p_y113, prog_17_method_1_code, 1, none, 1, 20)) = true := by decide +kernel
theorem q_r114 : p_tb114.all (sn_row (p_y114, prog_18_method_1_code, 1, none, 2, 40)) = true := by decide +kernel
theorem q_r115 : p_tb115.all (sn_row (p_y115, prog_19_method_2_code, 1, none, 3, 60)) = true := by decide +kernel
theorem q_r116 : p_tb116.all (sn_row (p_y116, prog_19_method_6_code, 4, some (.array (.object "java/lang/Object")), 3, 84)) = true := by decide +kernel
theorem q_r117 : p_tb117.all (sn_row (p_y117, prog_19_method_7_code, 1, some (.array (.object "java/lang/Object")), 4, 107)) = true := by decide +kernel
theorem q_r118 : p_tb118.all (sn_row (p_y118, prog_19_method_8_code, 1, some .int, 0, 0)) = true := by decide +kernel
theorem q_r119 : p_tb119.all (sn_row (p_y119, prog_19_method_18_code, 2, some (.object "java/lang/Object"), 0, 0)) = true := by decide +kernel
theorem q_r120 : p_tb120.all (sn_row (p_y120, prog_19_method_20_code, 2, some (.object "java/lang/Object"), 2, 43)) = true := by decide +kernel
theorem q_r121 : p_tb121.all (sn_row (p_y121, prog_19_method_24_code, 4, none, 5, 127)) = true := by decide +kernel
theorem q_r122 : p_tb122.all (sn_row (p_y122, prog_19_method_25_code, 2, some .boolean, 6, 150)) = true := by decide +kernel
theorem q_r123 : p_tb123.all (sn_row (p_y123, prog_20_method_103_code, 4, none, 0, 0)) = true := by decide +kernel
theorem q_r124 : p_tb124.all (sn_row (p_y124, prog_20_method_119_code, 2, some (.array (.object "java/lang/Object")), 2, 63)) = true := by decide +kernel
theorem q_r125 : p_tb125.all (sn_row (p_y125, prog_20_method_120_code, 4, some (.array (.object "java/lang/Object")), 1, 40)) = true := by decide +kernel
theorem q_r126 : p_tb126.all (sn_row (p_y126, prog_20_method_123_code, 3, some (.array .int), 1, 40)) = true := by decide +kernel
theorem q_r127 : p_tb127.all (sn_row (p_y127, prog_23_method_17_code, 2, some .int, 1, 22)) = true := by decide +kernel
theorem q_r128 : p_tb128.all (sn_row (p_y128, prog_26_method_27_code, 4, some .int, 1, 21)) = true := by decide +kernel
theorem q_r129 : p_tb129.all (sn_row (p_y129, prog_27_method_11_code, 3, some .int, 0, 0)) = true := by decide +kernel
end
section
/-! Printed by a program of ours: the checks of the tables, decided by the kernel, method by method. -/
theorem q_L0 : ((p_tb130.drop 0).take 60).all (sn_row (p_y130, code, 4, some .boolean, 10, 242)) = true := by decide +kernel
theorem q_L1 : ((p_tb130.drop 60).take 60).all (sn_row (p_y130, code, 4, some .boolean, 10, 242)) = true := by decide +kernel
theorem q_L2 : ((p_tb130.drop 120).take 60).all (sn_row (p_y130, code, 4, some .boolean, 10, 242)) = true := by decide +kernel
theorem q_L3 : ((p_tb130.drop 180).take 60).all (sn_row (p_y130, code, 4, some .boolean, 10, 242)) = true := by decide +kernel
theorem q_L4 : ((p_tb130.drop 240).take 60).all (sn_row (p_y130, code, 4, some .boolean, 10, 242)) = true := by decide +kernel
theorem q_L5 : ((p_tb130.drop 300).take 60).all (sn_row (p_y130, code, 4, some .boolean, 10, 242)) = true := by decide +kernel
theorem q_L6 : ((p_tb130.drop 360).take 60).all (sn_row (p_y130, code, 4, some .boolean, 10, 242)) = true := by decide +kernel
theorem q_L7 : ((p_tb130.drop 420).take 60).all (sn_row (p_y130, code, 4, some .boolean, 10, 242)) = true := by decide +kernel
theorem q_all {f : Nat × Instr × Nat × am_X → Bool} {k : Nat} {t : am_T} (h1 : (t.take k).all f = true) (h2 : (t.drop k).all f = true) : t.all f = true := by
  rw [← List.take_append_drop k t, List.all_append, h1, h2]; rfl
theorem q_r130 : p_tb130.all (sn_row (p_y130, code, 4, some .boolean, 10, 242)) = true := by
  have e : ∀ k, p_tb130.drop (k + 60) = (p_tb130.drop k).drop 60 := fun k => by rw [List.drop_drop]
  have z : p_tb130.drop 0 = p_tb130 := rfl
  rw [← z]
  refine q_all (k := 60) q_L0 ?_
  rw [← e]
  refine q_all (k := 60) q_L1 ?_
  rw [← e]
  refine q_all (k := 60) q_L2 ?_
  rw [← e]
  refine q_all (k := 60) q_L3 ?_
  rw [← e]
  refine q_all (k := 60) q_L4 ?_
  rw [← e]
  refine q_all (k := 60) q_L5 ?_
  rw [← e]
  refine q_all (k := 60) q_L6 ?_
  rw [← e]
  have l := q_L7
  rwa [List.take_of_length_le (by decide)] at l
set_option maxRecDepth 100000 in
theorem q_c0 : Jvm.Cond.code p_y0 prog_2_method_1_code 1 (none) ∈ sn_gw := sn_in (ix := 118) rfl rfl
set_option maxRecDepth 100000 in
theorem q_c1 : Jvm.Cond.code p_y1 prog_2_method_2_code 2 (none) ∈ sn_gw := sn_in (ix := 462) rfl rfl
set_option maxRecDepth 100000 in
theorem q_c2 : Jvm.Cond.code p_y2 prog_2_method_3_code 3 (some .boolean) ∈ sn_gw := sn_in (ix := 470) rfl rfl
set_option maxRecDepth 100000 in
theorem q_c3 : Jvm.Cond.code p_y3 prog_2_method_4_code 1 (some .int) ∈ sn_gw := sn_in (ix := 356) rfl rfl
set_option maxRecDepth 100000 in
theorem q_c4 : Jvm.Cond.code p_y4 prog_2_method_5_code 2 (none) ∈ sn_gw := sn_in (ix := 545) rfl rfl
set_option maxRecDepth 100000 in
theorem q_c5 : Jvm.Cond.code p_y5 prog_3_method_1_code 1 (none) ∈ sn_gw := sn_in (ix := 95) rfl rfl
set_option maxRecDepth 100000 in
theorem q_c6 : Jvm.Cond.code p_y6 prog_3_method_2_code 7 (none) ∈ sn_gw := sn_in (ix := 430) rfl rfl
set_option maxRecDepth 100000 in
theorem q_c7 : Jvm.Cond.code p_y7 prog_4_method_1_code 1 (none) ∈ sn_gw := sn_in (ix := 179) rfl rfl
set_option maxRecDepth 100000 in
theorem q_c8 : Jvm.Cond.code p_y8 prog_4_method_2_code 6 (some .boolean) ∈ sn_gw := sn_in (ix := 500) rfl rfl
set_option maxRecDepth 100000 in
theorem q_c9 : Jvm.Cond.code p_y9 prog_4_method_3_code 5 (some .boolean) ∈ sn_gw := sn_in (ix := 504) rfl rfl
set_option maxRecDepth 100000 in
theorem q_c10 : Jvm.Cond.code p_y10 prog_5_method_1_code 3 (none) ∈ sn_gw := sn_in (ix := 171) rfl rfl
set_option maxRecDepth 100000 in
theorem q_c11 : Jvm.Cond.code p_y11 prog_5_method_2_code 3 (some .boolean) ∈ sn_gw := sn_in (ix := 336) rfl rfl
set_option maxRecDepth 100000 in
theorem q_c12 : Jvm.Cond.code p_y12 prog_5_method_3_code 2 (some (.object "TwoStepOutputs$Part")) ∈ sn_gw := sn_in (ix := 581) rfl rfl
set_option maxRecDepth 100000 in
theorem q_c13 : Jvm.Cond.code p_y13 prog_5_method_4_code 3 (some .int) ∈ sn_gw := sn_in (ix := 570) rfl rfl
set_option maxRecDepth 100000 in
theorem q_c14 : Jvm.Cond.code p_y14 prog_5_method_5_code 1 (some .boolean) ∈ sn_gw := sn_in (ix := 486) rfl rfl
set_option maxRecDepth 100000 in
theorem q_c15 : Jvm.Cond.code p_y15 prog_5_method_6_code 3 (some .boolean) ∈ sn_gw := sn_in (ix := 656) rfl rfl
set_option maxRecDepth 100000 in
theorem q_c16 : Jvm.Cond.code p_y16 prog_5_method_7_code 4 (some .boolean) ∈ sn_gw := sn_in (ix := 662) rfl rfl
set_option maxRecDepth 100000 in
theorem q_c17 : Jvm.Cond.code p_y17 prog_5_method_8_code 4 (some .boolean) ∈ sn_gw := sn_in (ix := 668) rfl rfl
set_option maxRecDepth 100000 in
theorem q_c18 : Jvm.Cond.code p_y18 prog_5_method_9_code 3 (some .boolean) ∈ sn_gw := sn_in (ix := 672) rfl rfl
set_option maxRecDepth 100000 in
theorem q_c19 : Jvm.Cond.code p_y19 prog_5_method_10_code 6 (some .boolean) ∈ sn_gw := sn_in (ix := 676) rfl rfl
set_option maxRecDepth 100000 in
theorem q_c20 : Jvm.Cond.code p_y20 prog_6_method_1_code 3 (none) ∈ sn_gw := sn_in (ix := 380) rfl rfl
set_option maxRecDepth 100000 in
theorem q_c21 : Jvm.Cond.code p_y21 prog_7_method_1_code 2 (none) ∈ sn_gw := sn_in (ix := 605) rfl rfl
set_option maxRecDepth 100000 in
theorem q_c22 : Jvm.Cond.code p_y22 prog_7_method_2_code 4 (some .int) ∈ sn_gw := sn_in (ix := 630) rfl rfl
set_option maxRecDepth 100000 in
theorem q_c23 : Jvm.Cond.code p_y23 prog_8_method_1_code 2 (none) ∈ sn_gw := sn_in (ix := 98) rfl rfl
set_option maxRecDepth 100000 in
theorem q_c24 : Jvm.Cond.code p_y24 prog_8_method_2_code 1 (some .int) ∈ sn_gw := sn_in (ix := 377) rfl rfl
set_option maxRecDepth 100000 in
theorem q_c25 : Jvm.Cond.code p_y25 prog_8_method_3_code 3 (some .boolean) ∈ sn_gw := sn_in (ix := 458) rfl rfl
set_option maxRecDepth 100000 in
theorem q_c26 : Jvm.Cond.code p_y26 prog_8_method_4_code 3 (some .int) ∈ sn_gw := sn_in (ix := 496) rfl rfl
set_option maxRecDepth 100000 in
theorem q_c27 : Jvm.Cond.code p_y27 prog_8_method_5_code 4 (none) ∈ sn_gw := sn_in (ix := 452) rfl rfl
set_option maxRecDepth 100000 in
theorem q_c28 : Jvm.Cond.code p_y28 prog_8_method_6_code 2 (some .int) ∈ sn_gw := sn_in (ix := 436) rfl rfl
set_option maxRecDepth 100000 in
theorem q_c29 : Jvm.Cond.code p_y29 prog_9_method_1_code 1 (none) ∈ sn_gw := sn_in (ix := 189) rfl rfl
set_option maxRecDepth 100000 in
theorem q_c30 : Jvm.Cond.code p_y30 prog_9_method_2_code 2 (some .boolean) ∈ sn_gw := sn_in (ix := 525) rfl rfl
set_option maxRecDepth 100000 in
theorem q_c31 : Jvm.Cond.code p_y31 prog_9_method_3_code 6 (some .boolean) ∈ sn_gw := sn_in (ix := 520) rfl rfl
set_option maxRecDepth 100000 in
theorem q_c32 : Jvm.Cond.code p_y32 prog_1_method_1_code 1 (none) ∈ sn_gw := sn_in (ix := 61) rfl rfl
set_option maxRecDepth 100000 in
theorem q_c33 : Jvm.Cond.code p_y33 prog_1_method_2_code 3 (some .int) ∈ sn_gw := sn_in (ix := 162) rfl rfl
set_option maxRecDepth 100000 in
theorem q_c34 : Jvm.Cond.code p_y34 prog_1_method_3_code 5 (some .int) ∈ sn_gw := sn_in (ix := 311) rfl rfl
set_option maxRecDepth 100000 in
theorem q_c35 : Jvm.Cond.code p_y35 prog_1_method_4_code 3 (some .int) ∈ sn_gw := sn_in (ix := 340) rfl rfl
set_option maxRecDepth 100000 in
theorem q_c36 : Jvm.Cond.code p_y36 prog_1_method_5_code 2 (some .int) ∈ sn_gw := sn_in (ix := 466) rfl rfl
set_option maxRecDepth 100000 in
theorem q_c37 : Jvm.Cond.code p_y37 prog_1_method_6_code 1 (some .int) ∈ sn_gw := sn_in (ix := 529) rfl rfl
set_option maxRecDepth 100000 in
theorem q_c38 : Jvm.Cond.code p_y38 prog_1_method_7_code 3 (some .int) ∈ sn_gw := sn_in (ix := 533) rfl rfl
set_option maxRecDepth 100000 in
theorem q_c39 : Jvm.Cond.code p_y39 prog_1_method_8_code 3 (some .int) ∈ sn_gw := sn_in (ix := 549) rfl rfl
set_option maxRecDepth 100000 in
theorem q_c40 : Jvm.Cond.code p_y40 prog_1_method_9_code 5 (some .int) ∈ sn_gw := sn_in (ix := 553) rfl rfl
set_option maxRecDepth 100000 in
theorem q_c41 : Jvm.Cond.code p_y41 prog_1_method_10_code 2 (some .int) ∈ sn_gw := sn_in (ix := 557) rfl rfl
set_option maxRecDepth 100000 in
theorem q_c42 : Jvm.Cond.code p_y42 prog_1_method_11_code 2 (some .int) ∈ sn_gw := sn_in (ix := 561) rfl rfl
set_option maxRecDepth 100000 in
theorem q_c43 : Jvm.Cond.code p_y43 prog_1_method_12_code 4 (some .int) ∈ sn_gw := sn_in (ix := 565) rfl rfl
set_option maxRecDepth 100000 in
theorem q_c44 : Jvm.Cond.code p_y44 prog_1_method_13_code 6 (some .int) ∈ sn_gw := sn_in (ix := 577) rfl rfl
set_option maxRecDepth 100000 in
theorem q_c45 : Jvm.Cond.code p_y45 prog_1_method_14_code 5 (some .long) ∈ sn_gw := sn_in (ix := 585) rfl rfl
set_option maxRecDepth 100000 in
theorem q_c46 : Jvm.Cond.code p_y46 prog_1_method_15_code 5 (some .long) ∈ sn_gw := sn_in (ix := 595) rfl rfl
set_option maxRecDepth 100000 in
theorem q_c47 : Jvm.Cond.code p_y47 prog_1_method_16_code 3 (some .int) ∈ sn_gw := sn_in (ix := 600) rfl rfl
set_option maxRecDepth 100000 in
theorem q_c48 : Jvm.Cond.code p_y48 prog_1_method_17_code 4 (some .int) ∈ sn_gw := sn_in (ix := 622) rfl rfl
set_option maxRecDepth 100000 in
theorem q_c49 : Jvm.Cond.code p_y49 prog_1_method_18_code 4 (some .int) ∈ sn_gw := sn_in (ix := 637) rfl rfl
set_option maxRecDepth 100000 in
theorem q_c50 : Jvm.Cond.code p_y50 prog_1_method_19_code 3 (some .int) ∈ sn_gw := sn_in (ix := 641) rfl rfl
set_option maxRecDepth 100000 in
theorem q_c51 : Jvm.Cond.code p_y51 prog_1_method_20_code 2 (some .int) ∈ sn_gw := sn_in (ix := 648) rfl rfl
set_option maxRecDepth 100000 in
theorem q_c52 : Jvm.Cond.code p_y52 prog_1_method_21_code 7 (some .int) ∈ sn_gw := sn_in (ix := 652) rfl rfl
set_option maxRecDepth 100000 in
theorem q_c53 : Jvm.Cond.code p_y53 prog_1_method_22_code 2 (some (.object "TwoStepOutputs$Output")) ∈ sn_gw := sn_in (ix := 315) rfl rfl
set_option maxRecDepth 100000 in
theorem q_c54 : Jvm.Cond.code p_y54 prog_1_method_23_code 2 (some (.object "TwoStepOutputs$Reader")) ∈ sn_gw := sn_in (ix := 626) rfl rfl
set_option maxRecDepth 100000 in
theorem q_c55 : Jvm.Cond.code p_y55 prog_1_method_24_code 1 (some .boolean) ∈ sn_gw := sn_in (ix := 332) rfl rfl
set_option maxRecDepth 100000 in
theorem q_c56 : Jvm.Cond.code p_y56 prog_1_method_25_code 1 (some .boolean) ∈ sn_gw := sn_in (ix := 347) rfl rfl
set_option maxRecDepth 100000 in
theorem q_c57 : Jvm.Cond.code p_y57 prog_1_method_26_code 1 (some .int) ∈ sn_gw := sn_in (ix := 352) rfl rfl
set_option maxRecDepth 100000 in
theorem q_c58 : Jvm.Cond.code p_y58 prog_1_method_27_code 1 (some .boolean) ∈ sn_gw := sn_in (ix := 422) rfl rfl
set_option maxRecDepth 100000 in
theorem q_c59 : Jvm.Cond.code p_y59 prog_1_method_28_code 2 (none) ∈ sn_gw := sn_in (ix := 426) rfl rfl
set_option maxRecDepth 100000 in
theorem q_c60 : Jvm.Cond.code p_y60 prog_1_method_29_code 6 (some .boolean) ∈ sn_gw := sn_in (ix := 418) rfl rfl
set_option maxRecDepth 100000 in
theorem q_c61 : Jvm.Cond.code p_y61 prog_1_method_30_code 2 (some .int) ∈ sn_gw := sn_in (ix := 344) rfl rfl
set_option maxRecDepth 100000 in
theorem q_c62 : Jvm.Cond.code p_y62 prog_1_method_31_code 4 (some .int) ∈ sn_gw := sn_in (ix := 361) rfl rfl
set_option maxRecDepth 100000 in
theorem q_c63 : Jvm.Cond.code p_y63 prog_1_method_32_code 6 (some .int) ∈ sn_gw := sn_in (ix := 365) rfl rfl
set_option maxRecDepth 100000 in
theorem q_c64 : Jvm.Cond.code p_y64 prog_1_method_33_code 5 (some .boolean) ∈ sn_gw := sn_in (ix := 369) rfl rfl
set_option maxRecDepth 100000 in
theorem q_c65 : Jvm.Cond.code p_y65 prog_1_method_34_code 3 (some .boolean) ∈ sn_gw := sn_in (ix := 474) rfl rfl
set_option maxRecDepth 100000 in
theorem q_c66 : Jvm.Cond.code p_y66 prog_1_method_35_code 4 (some .int) ∈ sn_gw := sn_in (ix := 478) rfl rfl
set_option maxRecDepth 100000 in
theorem q_c67 : Jvm.Cond.code p_y67 prog_1_method_36_code 6 (some .int) ∈ sn_gw := sn_in (ix := 482) rfl rfl
set_option maxRecDepth 100000 in
theorem q_c68 : Jvm.Cond.code p_y68 prog_1_method_37_code 8 (some .int) ∈ sn_gw := sn_in (ix := 490) rfl rfl
set_option maxRecDepth 100000 in
theorem q_c69 : Jvm.Cond.code p_y69 prog_1_method_38_code 6 (some .int) ∈ sn_gw := sn_in (ix := 537) rfl rfl
set_option maxRecDepth 100000 in
theorem q_c70 : Jvm.Cond.code p_y70 prog_1_method_39_code 6 (some .int) ∈ sn_gw := sn_in (ix := 541) rfl rfl
set_option maxRecDepth 100000 in
theorem q_c71 : Jvm.Cond.code p_y71 prog_11_method_1_code 2 (none) ∈ sn_gw := sn_in (ix := 682) rfl rfl
set_option maxRecDepth 100000 in
theorem q_c72 : Jvm.Cond.code p_y72 prog_11_method_2_code 2 (some .int) ∈ sn_gw := sn_in (ix := 816) rfl rfl
set_option maxRecDepth 100000 in
theorem q_c73 : Jvm.Cond.code p_y73 prog_11_method_3_code 2 (some .int) ∈ sn_gw := sn_in (ix := 921) rfl rfl
set_option maxRecDepth 100000 in
theorem q_c74 : Jvm.Cond.code p_y74 prog_11_method_4_code 3 (some .boolean) ∈ sn_gw := sn_in (ix := 793) rfl rfl
set_option maxRecDepth 100000 in
theorem q_c75 : Jvm.Cond.code p_y75 prog_11_method_5_code 2 (some .boolean) ∈ sn_gw := sn_in (ix := 801) rfl rfl
set_option maxRecDepth 100000 in
theorem q_c76 : Jvm.Cond.code p_y76 prog_11_method_6_code 1 (some .boolean) ∈ sn_gw := sn_in (ix := 829) rfl rfl
set_option maxRecDepth 100000 in
theorem q_c77 : Jvm.Cond.code p_y77 prog_11_method_7_code 2 (none) ∈ sn_gw := sn_in (ix := 833) rfl rfl
set_option maxRecDepth 100000 in
theorem q_c78 : Jvm.Cond.code p_y78 prog_11_method_8_code 6 (some .boolean) ∈ sn_gw := sn_in (ix := 825) rfl rfl
set_option maxRecDepth 100000 in
theorem q_c79 : Jvm.Cond.code p_y79 prog_11_method_9_code 5 (some .int) ∈ sn_gw := sn_in (ix := 877) rfl rfl
set_option maxRecDepth 100000 in
theorem q_c80 : Jvm.Cond.code p_y80 prog_11_method_10_code 5 (some .int) ∈ sn_gw := sn_in (ix := 845) rfl rfl
set_option maxRecDepth 100000 in
theorem q_c81 : Jvm.Cond.code p_y81 prog_11_method_11_code 4 (some .int) ∈ sn_gw := sn_in (ix := 849) rfl rfl
set_option maxRecDepth 100000 in
theorem q_c82 : Jvm.Cond.code p_y82 prog_11_method_12_code 2 (some .int) ∈ sn_gw := sn_in (ix := 790) rfl rfl
set_option maxRecDepth 100000 in
theorem q_c83 : Jvm.Cond.code p_y83 prog_11_method_13_code 5 (some .int) ∈ sn_gw := sn_in (ix := 797) rfl rfl
set_option maxRecDepth 100000 in
theorem q_c84 : Jvm.Cond.code p_y84 prog_11_method_14_code 1 (some .int) ∈ sn_gw := sn_in (ix := 813) rfl rfl
set_option maxRecDepth 100000 in
theorem q_c85 : Jvm.Cond.code p_y85 prog_11_method_15_code 5 (some .int) ∈ sn_gw := sn_in (ix := 809) rfl rfl
set_option maxRecDepth 100000 in
theorem q_c86 : Jvm.Cond.code p_y86 prog_11_method_16_code 7 (some .int) ∈ sn_gw := sn_in (ix := 821) rfl rfl
set_option maxRecDepth 100000 in
theorem q_c87 : Jvm.Cond.code p_y87 prog_11_method_17_code 3 (some .int) ∈ sn_gw := sn_in (ix := 805) rfl rfl
set_option maxRecDepth 100000 in
theorem q_c88 : Jvm.Cond.code p_y88 prog_11_method_18_code 4 (some .int) ∈ sn_gw := sn_in (ix := 837) rfl rfl
set_option maxRecDepth 100000 in
theorem q_c89 : Jvm.Cond.code p_y89 prog_11_method_19_code 1 (some .int) ∈ sn_gw := sn_in (ix := 865) rfl rfl
set_option maxRecDepth 100000 in
theorem q_c90 : Jvm.Cond.code p_y90 prog_11_method_20_code 6 (some .int) ∈ sn_gw := sn_in (ix := 841) rfl rfl
set_option maxRecDepth 100000 in
theorem q_c91 : Jvm.Cond.code p_y91 prog_11_method_21_code 7 (some .int) ∈ sn_gw := sn_in (ix := 853) rfl rfl
set_option maxRecDepth 100000 in
theorem q_c92 : Jvm.Cond.code p_y92 prog_11_method_22_code 7 (some .int) ∈ sn_gw := sn_in (ix := 857) rfl rfl
set_option maxRecDepth 100000 in
theorem q_c93 : Jvm.Cond.code p_y93 prog_11_method_23_code 6 (some .int) ∈ sn_gw := sn_in (ix := 861) rfl rfl
set_option maxRecDepth 100000 in
theorem q_c94 : Jvm.Cond.code p_y94 prog_11_method_24_code 6 (some .int) ∈ sn_gw := sn_in (ix := 873) rfl rfl
set_option maxRecDepth 100000 in
theorem q_c95 : Jvm.Cond.code p_y95 prog_11_method_25_code 5 (some .int) ∈ sn_gw := sn_in (ix := 869) rfl rfl
set_option maxRecDepth 100000 in
theorem q_c96 : Jvm.Cond.code p_y96 prog_11_method_26_code 3 (some .int) ∈ sn_gw := sn_in (ix := 881) rfl rfl
set_option maxRecDepth 100000 in
theorem q_c97 : Jvm.Cond.code p_y97 prog_11_method_27_code 4 (some .int) ∈ sn_gw := sn_in (ix := 885) rfl rfl
set_option maxRecDepth 100000 in
theorem q_c98 : Jvm.Cond.code p_y98 prog_11_method_28_code 2 (some .int) ∈ sn_gw := sn_in (ix := 889) rfl rfl
set_option maxRecDepth 100000 in
theorem q_c99 : Jvm.Cond.code p_y99 prog_11_method_29_code 3 (some .int) ∈ sn_gw := sn_in (ix := 893) rfl rfl
set_option maxRecDepth 100000 in
theorem q_c100 : Jvm.Cond.code p_y100 prog_11_method_30_code 6 (some .int) ∈ sn_gw := sn_in (ix := 897) rfl rfl
set_option maxRecDepth 100000 in
theorem q_c101 : Jvm.Cond.code p_y101 prog_11_method_31_code 4 (some .int) ∈ sn_gw := sn_in (ix := 901) rfl rfl
set_option maxRecDepth 100000 in
theorem q_c102 : Jvm.Cond.code p_y102 prog_11_method_32_code 5 (some .long) ∈ sn_gw := sn_in (ix := 905) rfl rfl
set_option maxRecDepth 100000 in
theorem q_c103 : Jvm.Cond.code p_y103 prog_11_method_33_code 5 (some .long) ∈ sn_gw := sn_in (ix := 910) rfl rfl
set_option maxRecDepth 100000 in
theorem q_c104 : Jvm.Cond.code p_y104 prog_11_method_34_code 2 (some .int) ∈ sn_gw := sn_in (ix := 914) rfl rfl
set_option maxRecDepth 100000 in
theorem q_c105 : Jvm.Cond.code p_y105 prog_11_method_35_code 4 (some .int) ∈ sn_gw := sn_in (ix := 918) rfl rfl
set_option maxRecDepth 100000 in
theorem q_c106 : Jvm.Cond.code p_y106 prog_11_method_36_code 5 (some .int) ∈ sn_gw := sn_in (ix := 925) rfl rfl
set_option maxRecDepth 100000 in
theorem q_c107 : Jvm.Cond.code p_y107 prog_11_method_37_code 3 (some .int) ∈ sn_gw := sn_in (ix := 929) rfl rfl
set_option maxRecDepth 100000 in
theorem q_c108 : Jvm.Cond.code p_y108 prog_11_method_38_code 2 (some .int) ∈ sn_gw := sn_in (ix := 933) rfl rfl
set_option maxRecDepth 100000 in
theorem q_c109 : Jvm.Cond.code p_y109 prog_11_method_39_code 7 (some .int) ∈ sn_gw := sn_in (ix := 937) rfl rfl
set_option maxRecDepth 100000 in
theorem q_c110 : Jvm.Cond.code p_y110 prog_11_method_40_code 6 (some .int) ∈ sn_gw := sn_in (ix := 941) rfl rfl
set_option maxRecDepth 100000 in
theorem q_c111 : Jvm.Cond.code p_y111 prog_15_method_65_code 2 (some .int) ∈ sn_gw := sn_in (ix := 102) rfl rfl
set_option maxRecDepth 100000 in
theorem q_c112 : Jvm.Cond.code p_y112 prog_15_method_69_code 2 (some .int) ∈ sn_gw := sn_in (ix := 302) rfl rfl
set_option maxRecDepth 100000 in
theorem q_c113 : Jvm.Cond.code p_y113 prog_17_method_1_code 1 (none) ∈ sn_gw := sn_in (ix := 75) rfl rfl
set_option maxRecDepth 100000 in
theorem q_c114 : Jvm.Cond.code p_y114 prog_18_method_1_code 1 (none) ∈ sn_gw := sn_in (ix := 72) rfl rfl
set_option maxRecDepth 100000 in
theorem q_c115 : Jvm.Cond.code p_y115 prog_19_method_2_code 1 (none) ∈ sn_gw := sn_in (ix := 69) rfl rfl
set_option maxRecDepth 100000 in
theorem q_c116 : Jvm.Cond.code p_y116 prog_19_method_6_code 4 (some (.array (.object "java/lang/Object"))) ∈ sn_gw := sn_in (ix := 268) rfl rfl
set_option maxRecDepth 100000 in
theorem q_c117 : Jvm.Cond.code p_y117 prog_19_method_7_code 1 (some (.array (.object "java/lang/Object"))) ∈ sn_gw := sn_in (ix := 264) rfl rfl
set_option maxRecDepth 100000 in
theorem q_c118 : Jvm.Cond.code p_y118 prog_19_method_8_code 1 (some .int) ∈ sn_gw := sn_in (ix := 166) rfl rfl
set_option maxRecDepth 100000 in
theorem q_c119 : Jvm.Cond.code p_y119 prog_19_method_18_code 2 (some (.object "java/lang/Object")) ∈ sn_gw := sn_in (ix := 329) rfl rfl
set_option maxRecDepth 100000 in
theorem q_c120 : Jvm.Cond.code p_y120 prog_19_method_20_code 2 (some (.object "java/lang/Object")) ∈ sn_gw := sn_in (ix := 319) rfl rfl
set_option maxRecDepth 100000 in
theorem q_c121 : Jvm.Cond.code p_y121 prog_19_method_24_code 4 (none) ∈ sn_gw := sn_in (ix := 260) rfl rfl
set_option maxRecDepth 100000 in
theorem q_c122 : Jvm.Cond.code p_y122 prog_19_method_25_code 2 (some .boolean) ∈ sn_gw := sn_in (ix := 256) rfl rfl
set_option maxRecDepth 100000 in
theorem q_c123 : Jvm.Cond.code p_y123 prog_20_method_103_code 4 (none) ∈ sn_gw := sn_in (ix := 193) rfl rfl
set_option maxRecDepth 100000 in
theorem q_c124 : Jvm.Cond.code p_y124 prog_20_method_119_code 2 (some (.array (.object "java/lang/Object"))) ∈ sn_gw := sn_in (ix := 279) rfl rfl
set_option maxRecDepth 100000 in
theorem q_c125 : Jvm.Cond.code p_y125 prog_20_method_120_code 4 (some (.array (.object "java/lang/Object"))) ∈ sn_gw := sn_in (ix := 296) rfl rfl
set_option maxRecDepth 100000 in
theorem q_c126 : Jvm.Cond.code p_y126 prog_20_method_123_code 3 (some (.array .int)) ∈ sn_gw := sn_in (ix := 439) rfl rfl
set_option maxRecDepth 100000 in
theorem q_c127 : Jvm.Cond.code p_y127 prog_23_method_17_code 2 (some .int) ∈ sn_gw := sn_in (ix := 322) rfl rfl
set_option maxRecDepth 100000 in
theorem q_c128 : Jvm.Cond.code p_y128 prog_26_method_27_code 4 (some .int) ∈ sn_gw := sn_in (ix := 271) rfl rfl
set_option maxRecDepth 100000 in
theorem q_c129 : Jvm.Cond.code p_y129 prog_27_method_11_code 3 (some .int) ∈ sn_gw := sn_in (ix := 325) rfl rfl
end
section
/-! An instruction that goes on: the machine follows. -/
def sn_ret (M : am_M) (pc : Nat) (r : Option Value) : Prop := (r = none ∧ decode M.2.1 pc = .ok (.return_, 1) ∧ M.2.2.2.1 = none) ∨ (∃ v, r = some (.int v) ∧ decode M.2.1 pc = .ok (.ireturn, 1) ∧ am_okr M.2.2.2.1 v = true) ∨ (∃ v, r = some (.long v) ∧ decode M.2.1 pc = .ok (.lreturn, 1) ∧ M.2.2.2.1 = some .long) ∨ (∃ v rt, r = some v ∧ decode M.2.1 pc = .ok (.areturn, 1) ∧ M.2.2.2.1 = some rt ∧ ((∃ n, rt = .object n) ∨ ∃ t, rt = .array t) ∧ (v = .null ∨ ∃ a, v = .ref a))
theorem sn_pf_n {ty : Nat → Nat → FieldType} {h h' : am_H} {a : Nat} {al : List (Nat × Nat)} {v : Value} (hv : am_pf ty h a al v = some h') : h'.1 = h.1 ∧ h'.2.1 = h.2.1 := by
  unfold am_pf at hv
  split at hv
  · split at hv
    · split at hv
      · cases hv; exact ⟨rfl, rfl⟩
      · cases hv
    · cases hv
  · cases hv
theorem sn_iast_n {h h' : am_H} {a : Nat} {i x : Int32} (hv : am_iast h a i x = some h') : h'.1 = h.1 ∧ h'.2.1 = h.2.1 := by
  unfold am_iast at hv
  split at hv
  · rename_i n f hc
    cases hi : am_ix i n with
    | none => rw [hi] at hv; cases hv
    | some j => rw [hi] at hv; cases hv; exact ⟨rfl, rfl⟩
  · cases hv
theorem sn_aast_n {h h' : am_H} {a v : Nat} {i : Int32} (hv : am_aast h a i v = some h') : h'.1 = h.1 ∧ h'.2.1 = h.2.1 := by
  unfold am_aast at hv
  split at hv
  · rename_i n f hc
    split at hv
    · split at hv
      · cases hv
      · cases hi : am_ix i n with
        | none => rw [hi] at hv; cases hv
        | some j => rw [hi] at hv; cases hv; exact ⟨rfl, rfl⟩
    · cases hv
  · cases hv
theorem sn_copy_n {h h' : am_H} {a b : Nat} {n : Int32} (hv : am_copy h a b n = some h') : h'.1 = h.1 ∧ h'.2.1 = h.2.1 := by
  unfold am_copy at hv
  split at hv
  · cases hv
  · split at hv
    · split at hv
      · split at hv
        · cases hv; exact ⟨rfl, rfl⟩
        · cases hv
      · cases hv
    · split at hv
      · split at hv
        · cases hv; exact ⟨rfl, rfl⟩
        · cases hv
      · cases hv
    · cases hv
theorem sn_rf {v : Value} {r : Option Nat} (h : am_rf v = some r) : v = va_rf r := by
  unfold am_rf at h
  split at h <;> cases h <;> rfl
theorem sn_sw {x : Int32} {d : Nat} {offs : Array Int} {al : List (Nat × Nat)} {pc : Nat} {dd : Int} (hd : (pc : Int) + dd = (d : Int)) (hlen : al.length = offs.size) (hsm : offs.size ≤ 1000) (hall : ∀ j, j < offs.size → ∃ o t, offs[j]? = some o ∧ al[j]? = some (j, t) ∧ (pc : Int) + o = (t : Int)) :
    ((x.toInt < 0 ∨ (offs.size : Int) ≤ x.toInt) ∧ am_sw x d al = d) ∨ (∃ o, ¬ x.toInt < 0 ∧ x.toInt < (offs.size : Int) ∧ offs[x.toInt.toNat]? = some o ∧ (pc : Int) + o = (am_sw x d al : Int)) := by
  have key : ∀ (l : List (Nat × Nat)) (k : Nat), (∀ j, j < l.length → ∃ t, l[j]? = some (k + j, t)) → k + l.length ≤ 1000 → (((x.toInt < (k : Int) ∨ ((k + l.length : Nat) : Int) ≤ x.toInt) ∧ am_sw x d l = d) ∨ (∃ j, j < l.length ∧ x.toInt = ((k + j : Nat) : Int) ∧ l[j]? = some (k + j, am_sw x d l))) := by
    intro l
    induction l with
    | nil =>
      intro k _ _
      left
      refine ⟨?_, rfl⟩
      simp only [List.length_nil, Nat.add_zero]
      omega
    | cons q l ih =>
      intro k hk hs
      obtain ⟨t, ht⟩ := hk 0 (by simp)
      have hq : q = (k, t) := by simpa using ht
      subst hq
      by_cases hx : x = Int32.ofNat k
      · right
        refine ⟨0, by simp, ?_, ?_⟩
        · rw [hx]
          have : (Int32.ofNat k).toInt = (k : Int) := nI_toInt (n := k) (by simp only [List.length_cons] at hs; omega)
          rw [this]
          simp
        · simp [am_sw, hx]
      · have hne : x.toInt ≠ (k : Int) := by
          intro h9
          apply hx
          have : (Int32.ofNat k).toInt = (k : Int) := nI_toInt (n := k) (by simp only [List.length_cons] at hs; omega)
          exact Int32.toInt.inj (h9.trans this.symm)
        have hsw : am_sw x d ((k, t) :: l) = am_sw x d l := by simp [am_sw, hx]
        rw [hsw]
        rcases ih (k + 1) (fun j hj => by
          obtain ⟨t', ht'⟩ := hk (j + 1) (by simp only [List.length_cons]; omega)
          refine ⟨t', ?_⟩
          rw [List.getElem?_cons_succ] at ht'
          rw [ht']
          congr 2
          omega) (by simp only [List.length_cons] at hs; omega) with h1 | ⟨j, h1, h2, h3⟩
        · left
          refine ⟨?_, h1.2⟩
          simp only [List.length_cons]
          have := h1.1
          omega
        · right
          refine ⟨j + 1, by simp only [List.length_cons]; omega, by rw [h2]; congr 1; omega, ?_⟩
          rw [List.getElem?_cons_succ, h3]
          congr 2
          omega
  rcases key al 0 (fun j hj => by
    obtain ⟨o, t, h1, h2, h3⟩ := hall j (by omega)
    exact ⟨t, by rw [h2]; simp⟩) (by omega) with h1 | ⟨j, h1, h2, h3⟩
  · left
    refine ⟨?_, h1.2⟩
    have := h1.1
    rw [hlen] at this
    simpa using this
  · right
    obtain ⟨o, t, g1, g2, g3⟩ := hall j (by omega)
    rw [Nat.zero_add] at h2 h3
    rw [h3] at g2
    cases g2
    refine ⟨o, by omega, by omega, ?_, g3⟩
    rw [h2]
    simpa using g1
section Go
variable {l : Launch} {D : va_G} {cyI cyO : ClassId} {H0 : Heap} {b L : Nat} {xs : Nat → Int32} {P : Nat × Nat}
variable {p : Program} {e : Env} {R : Room} {s : State} {m : MethodId} {args : Array Value} {below : List Frame} {meth : Method} {c : Code} {H : Heap} {locs : List Loc} {lsA : Array Slot} {n0 s0 : Nat} {Q : State → Prop}
set_option maxHeartbeats 4000000 in
theorem sn_go {M : am_M} {rt : Option FieldType} {pc n pc' : Nat} {i : Instr} {x : am_X} {ls ls' : am_L} {st st' : List Value} {h h' : am_H} (hdec : decode M.2.1 pc = .ok (i, n)) (hlen : (sn_isSw i || decide (n = sn_len i)) = true) (hck : sn_ck M pc i x = true)
    (ha : am_act P p_ty p_df rt pc i x ls st h = some (.inr (.inl (pc', ls', st', h')))) (hx : p.tables.exec = Jvm.exec) (hb : c.code = M.2.1) (hml : c.maxLocals = M.2.2.1) (hown : s.vm.findClass M.1.cls = some m.cls) (hts : ∀ w ∈ sn_gw, w.before args s = true) (hnm : M.1.name = "<init>" → meth.name = "<init>") (hK : sn_K D cyI cyO H0 b L xs P s)
    (hfr : M.2.2.2.2.1 ≤ R.frames) (hlo : M.2.2.2.2.2 ≤ R.locals) (hH : sn_H D cyI cyO H0 b L xs P h H) (hL : sn_L lsA ls) (hll : ls.length = M.2.2.1) (hl : ∀ q ∈ locs, H0.size ≤ q.base) (hn0 : n0 ≤ h.1) (hs0 : s0 ≤ h.2.1) (hRc : h'.1 - n0 ≤ R.cells) (hRs : h'.2.1 - s0 ≤ R.slots)
    (kk : ∀ (H1 : Heap) (locs1 : List Loc) (ls1 : Array Slot), sn_H D cyI cyO H0 b L xs P h' H1 → sn_L ls1 ls' → (∀ q ∈ locs1, H0.size ≤ q.base) → ls'.length = M.2.2.1 → W p l e R s m args below meth c H1 locs1 (h'.1 - n0) (h'.2.1 - s0) Q (F0 m pc' ls1 st')) : W p l e R s m args below meth c H locs (h.1 - n0) (h.2.1 - s0) Q (F0 m pc lsA st) := by
  have hsz : c.maxLocals = lsA.size := by rw [hml, hL.1, hll]
  unfold am_act at ha
  split at ha
  · rename_i k
    obtain rfl : n = 1 := of_decide_eq_true hlen
    cases ha
    exact lv_iconst hx hb hdec rfl (kk H locs lsA hH hL hl hll)
  · rename_i k
    obtain rfl : n = 2 := of_decide_eq_true hlen
    cases ha
    exact lv_bipush hx hb hdec rfl (kk H locs lsA hH hL hl hll)
  · rename_i k
    obtain rfl : n = 3 := of_decide_eq_true hlen
    cases ha
    exact lv_sipush hx hb hdec rfl (kk H locs lsA hH hL hl hll)
  · obtain rfl : n = 1 := of_decide_eq_true hlen
    cases ha
    exact lv_null hx hb hdec (kk H locs lsA hH hL hl hll)
  · rename_i k
    obtain rfl : n = 2 := of_decide_eq_true hlen
    split at ha
    · rename_i hx1
      cases ha
      have hw : Jvm.Cond.classLink M.1.cls k "[Ljava/lang/Object;" ∈ sn_gw := sn_mem_in (by simpa only [sn_ck, if_pos hx1] using hck)
      exact va_ldcM hx hb hown (hts _ hw) hK.2.2.2.2.2.2.1 hdec (kk H locs lsA hH hL hl hll)
    · rename_i hx1
      cases ha
      have hw : Jvm.Cond.constant M.1.cls k (Int32.ofInt x.2.2.2.1) ∈ sn_gw := sn_mem_in (by simpa only [sn_ck, if_neg hx1] using hck)
      exact lv_ldc hx hb hown (hts _ hw) hdec (kk H locs lsA hH hL hl hll)
  · rename_i k
    obtain rfl : n = 3 := of_decide_eq_true hlen
    cases ha
    exact lv_ldc2 hx hb hown (hts _ (sn_mem_in hck)) hdec (kk H locs lsA hH hL hl hll)
  · rename_i k
    obtain rfl : n = 1 := of_decide_eq_true hlen
    split at ha
    · rename_i v hv
      cases ha
      exact lv_iload_n hx hb hdec rfl (sn_ld hL hv) (kk H locs lsA hH hL hl hll)
    · cases ha
  · rename_i k
    obtain rfl : n = 2 := of_decide_eq_true hlen
    split at ha
    · rename_i v hv
      cases ha
      exact lv_iload hx hb hdec (sn_ld hL hv) (kk H locs lsA hH hL hl hll)
    · cases ha
  · rename_i k
    obtain rfl : n = 1 := of_decide_eq_true hlen
    split at ha
    · rename_i v hv
      cases ha
      exact lv_aload_n hx hb hdec rfl (sn_ld hL hv) (kk H locs lsA hH hL hl hll)
    · rename_i hv
      cases ha
      exact lv_aload_nN hx hb hdec rfl (sn_ld hL hv) (kk H locs lsA hH hL hl hll)
    · cases ha
  · rename_i k
    obtain rfl : n = 2 := of_decide_eq_true hlen
    split at ha
    · rename_i v hv
      cases ha
      exact lv_aload hx hb hdec (sn_ld hL hv) (kk H locs lsA hH hL hl hll)
    · rename_i hv
      cases ha
      exact lv_aloadN hx hb hdec (sn_ld hL hv) (kk H locs lsA hH hL hl hll)
    · cases ha
  · rename_i k
    obtain rfl : n = 1 := of_decide_eq_true hlen
    split at ha
    · rename_i v r
      split at ha
      · rename_i ls9 hs
        cases ha
        unfold am_st at hs
        split at hs
        · rename_i hk
          cases hs
          exact lv_istore_n hx hb hdec rfl hL.has hk rfl (fun ls1 hl1 => kk H locs ls1 hH (hL.set rfl hl1) hl (by rw [List.length_set]; exact hll))
        · cases hs
      · cases ha
    · cases ha
  · rename_i k
    obtain rfl : n = 2 := of_decide_eq_true hlen
    split at ha
    · rename_i v r
      split at ha
      · rename_i ls9 hs
        cases ha
        unfold am_st at hs
        split at hs
        · rename_i hk
          cases hs
          exact lv_istore hx hb hdec hL.has hk rfl (fun ls1 hl1 => kk H locs ls1 hH (hL.set rfl hl1) hl (by rw [List.length_set]; exact hll))
        · cases hs
      · cases ha
    · cases ha
  · rename_i k
    obtain rfl : n = 1 := of_decide_eq_true hlen
    split at ha
    · rename_i v r
      split at ha
      · rename_i ls9 hs
        cases ha
        unfold am_st at hs
        split at hs
        · rename_i hk
          cases hs
          exact lv_astore_n hx hb hdec rfl hL.has hk rfl (fun ls1 hl1 => kk H locs ls1 hH (hL.set rfl hl1) hl (by rw [List.length_set]; exact hll))
        · cases hs
      · cases ha
    · rename_i r
      split at ha
      · rename_i ls9 hs
        cases ha
        unfold am_st at hs
        split at hs
        · rename_i hk
          cases hs
          exact lv_astore_nN hx hb hdec rfl hL.has hk rfl (fun ls1 hl1 => kk H locs ls1 hH (hL.set rfl hl1) hl (by rw [List.length_set]; exact hll))
        · cases hs
      · cases ha
    · cases ha
  · rename_i k
    obtain rfl : n = 2 := of_decide_eq_true hlen
    split at ha
    · rename_i v r
      split at ha
      · rename_i ls9 hs
        cases ha
        unfold am_st at hs
        split at hs
        · rename_i hk
          cases hs
          exact lv_astore hx hb hdec hL.has hk rfl (fun ls1 hl1 => kk H locs ls1 hH (hL.set rfl hl1) hl (by rw [List.length_set]; exact hll))
        · cases hs
      · cases ha
    · rename_i r
      split at ha
      · rename_i ls9 hs
        cases ha
        unfold am_st at hs
        split at hs
        · rename_i hk
          cases hs
          exact lv_astoreN hx hb hdec hL.has hk rfl (fun ls1 hl1 => kk H locs ls1 hH (hL.set rfl hl1) hl (by rw [List.length_set]; exact hll))
        · cases hs
      · cases ha
    · cases ha
  · rename_i k nn
    obtain rfl : n = 3 := of_decide_eq_true hlen
    split at ha
    · rename_i v hv
      split at ha
      · rename_i ls9 hs
        cases ha
        unfold am_st at hs
        split at hs
        · rename_i hk
          cases hs
          have hmem : (k, Value.int v) ∈ sn_lv ls := by
            unfold am_ld at hv
            split at hv
            · rename_i w hw
              cases hv
              exact sn_lv_mem.mpr hw
            · cases hv
          obtain ⟨j, hj⟩ := List.getElem?_of_mem hmem
          exact lv_iinc hx hb hdec hL.has hj rfl hk rfl (fun ls1 hl1 => kk H locs ls1 hH (hL.set rfl hl1) hl (by rw [List.length_set]; exact hll))
        · cases hs
      · cases ha
    · cases ha
  · obtain rfl : n = 1 := of_decide_eq_true hlen
    split at ha
    · cases ha
      exact lv_iadd hx hb hdec (kk H locs lsA hH hL hl hll)
    · cases ha
  · obtain rfl : n = 1 := of_decide_eq_true hlen
    split at ha
    · cases ha
      exact lv_isub hx hb hdec (kk H locs lsA hH hL hl hll)
    · cases ha
  · obtain rfl : n = 1 := of_decide_eq_true hlen
    split at ha
    · cases ha
      exact lv_imul hx hb hdec (kk H locs lsA hH hL hl hll)
    · cases ha
  · obtain rfl : n = 1 := of_decide_eq_true hlen
    split at ha
    · cases ha
      exact lv_iand hx hb hdec (kk H locs lsA hH hL hl hll)
    · cases ha
  · obtain rfl : n = 1 := of_decide_eq_true hlen
    split at ha
    · cases ha
      exact lv_ior hx hb hdec (kk H locs lsA hH hL hl hll)
    · cases ha
  · obtain rfl : n = 1 := of_decide_eq_true hlen
    split at ha
    · cases ha
      exact lv_ishl hx hb hdec (kk H locs lsA hH hL hl hll)
    · cases ha
  · obtain rfl : n = 1 := of_decide_eq_true hlen
    split at ha
    · cases ha
      exact lv_ishr hx hb hdec (kk H locs lsA hH hL hl hll)
    · cases ha
  · obtain rfl : n = 1 := of_decide_eq_true hlen
    split at ha
    · cases ha
      exact lv_i2l hx hb hdec rfl (kk H locs lsA hH hL hl hll)
    · cases ha
  · obtain rfl : n = 1 := of_decide_eq_true hlen
    split at ha
    · cases ha
      exact W.lcmp hx hb hdec (kk H locs lsA hH hL hl hll)
    · cases ha
  · obtain rfl : n = 1 := of_decide_eq_true hlen
    split at ha
    · cases ha
      exact lv_dup hx hb hdec rfl (kk H locs lsA hH hL hl hll)
    · cases ha
      exact lv_dup hx hb hdec rfl (kk H locs lsA hH hL hl hll)
    · cases ha
  · obtain rfl : n = 1 := of_decide_eq_true hlen
    split at ha
    · cases ha
      exact lv_dup_x1 hx hb hdec rfl rfl (kk H locs lsA hH hL hl hll)
    · cases ha
      exact lv_dup_x1 hx hb hdec rfl rfl (kk H locs lsA hH hL hl hll)
    · cases ha
  · obtain rfl : n = 1 := of_decide_eq_true hlen
    split at ha
    · cases ha
      exact lv_dup2_11 hx hb hdec rfl rfl (kk H locs lsA hH hL hl hll)
    · cases ha
  · obtain rfl : n = 1 := of_decide_eq_true hlen
    split at ha
    · cases ha
      exact lv_pop hx hb hdec rfl (kk H locs lsA hH hL hl hll)
    · cases ha
  · rename_i off
    obtain rfl : n = 3 := of_decide_eq_true hlen
    cases ha
    exact lv_goto hx hb hdec (of_decide_eq_true hck) (kk H locs lsA hH hL hl hll)
  · rename_i cd off
    obtain rfl : n = 3 := of_decide_eq_true hlen
    split at ha
    · rename_i a r
      unfold am_br at ha
      split at ha
      · split at ha
        · rename_i hcnd
          cases ha
          exact lv_if_eq hx hb hdec (of_decide_eq_true hck) (fun _ => (kk H locs lsA hH hL hl hll)) (fun q => absurd hcnd q)
        · rename_i hcnd
          cases ha
          exact lv_if_eq hx hb hdec (of_decide_eq_true hck) (fun q => absurd q hcnd) (fun _ => (kk H locs lsA hH hL hl hll))
      · split at ha
        · rename_i hcnd
          cases ha
          exact lv_if_ne hx hb hdec (of_decide_eq_true hck) (fun q => absurd hcnd q) (fun _ => (kk H locs lsA hH hL hl hll))
        · rename_i hcnd
          cases ha
          exact lv_if_ne hx hb hdec (of_decide_eq_true hck) (fun _ => (kk H locs lsA hH hL hl hll)) (fun q => absurd q hcnd)
      · split at ha
        · rename_i hcnd
          cases ha
          exact lv_if_lt hx hb hdec (of_decide_eq_true hck) (fun _ => (kk H locs lsA hH hL hl hll)) (fun q => absurd hcnd q)
        · rename_i hcnd
          cases ha
          exact lv_if_lt hx hb hdec (of_decide_eq_true hck) (fun q => absurd q hcnd) (fun _ => (kk H locs lsA hH hL hl hll))
      · split at ha
        · rename_i hcnd
          cases ha
          exact lv_if_ge hx hb hdec (of_decide_eq_true hck) (fun _ => (kk H locs lsA hH hL hl hll)) (fun q => absurd hcnd q)
        · rename_i hcnd
          cases ha
          exact lv_if_ge hx hb hdec (of_decide_eq_true hck) (fun q => absurd q hcnd) (fun _ => (kk H locs lsA hH hL hl hll))
      · split at ha
        · rename_i hcnd
          cases ha
          exact lv_if_gt hx hb hdec (of_decide_eq_true hck) (fun _ => (kk H locs lsA hH hL hl hll)) (fun q => absurd hcnd q)
        · rename_i hcnd
          cases ha
          exact lv_if_gt hx hb hdec (of_decide_eq_true hck) (fun q => absurd q hcnd) (fun _ => (kk H locs lsA hH hL hl hll))
      · split at ha
        · rename_i hcnd
          cases ha
          exact lv_if_le hx hb hdec (of_decide_eq_true hck) (fun _ => (kk H locs lsA hH hL hl hll)) (fun q => absurd hcnd q)
        · rename_i hcnd
          cases ha
          exact lv_if_le hx hb hdec (of_decide_eq_true hck) (fun q => absurd q hcnd) (fun _ => (kk H locs lsA hH hL hl hll))
    · cases ha
  · rename_i cd off
    obtain rfl : n = 3 := of_decide_eq_true hlen
    split at ha
    · rename_i b1 a1 r
      unfold am_br at ha
      split at ha
      · split at ha
        · rename_i hcnd
          cases ha
          exact lv_icmp_eq hx hb hdec (of_decide_eq_true hck) (fun _ => (kk H locs lsA hH hL hl hll)) (fun q => absurd hcnd q)
        · rename_i hcnd
          cases ha
          exact lv_icmp_eq hx hb hdec (of_decide_eq_true hck) (fun q => absurd q hcnd) (fun _ => (kk H locs lsA hH hL hl hll))
      · split at ha
        · rename_i hcnd
          cases ha
          exact lv_icmp_ne hx hb hdec (of_decide_eq_true hck) (fun q => absurd hcnd q) (fun _ => (kk H locs lsA hH hL hl hll))
        · rename_i hcnd
          cases ha
          exact lv_icmp_ne hx hb hdec (of_decide_eq_true hck) (fun _ => (kk H locs lsA hH hL hl hll)) (fun q => absurd q hcnd)
      · split at ha
        · rename_i hcnd
          cases ha
          exact lv_icmp_lt hx hb hdec (of_decide_eq_true hck) (fun _ => (kk H locs lsA hH hL hl hll)) (fun q => absurd hcnd q)
        · rename_i hcnd
          cases ha
          exact lv_icmp_lt hx hb hdec (of_decide_eq_true hck) (fun q => absurd q hcnd) (fun _ => (kk H locs lsA hH hL hl hll))
      · split at ha
        · rename_i hcnd
          cases ha
          exact lv_icmp_ge hx hb hdec (of_decide_eq_true hck) (fun _ => (kk H locs lsA hH hL hl hll)) (fun q => absurd hcnd q)
        · rename_i hcnd
          cases ha
          exact lv_icmp_ge hx hb hdec (of_decide_eq_true hck) (fun q => absurd q hcnd) (fun _ => (kk H locs lsA hH hL hl hll))
      · split at ha
        · rename_i hcnd
          cases ha
          exact lv_icmp_gt hx hb hdec (of_decide_eq_true hck) (fun _ => (kk H locs lsA hH hL hl hll)) (fun q => absurd hcnd q)
        · rename_i hcnd
          cases ha
          exact lv_icmp_gt hx hb hdec (of_decide_eq_true hck) (fun q => absurd q hcnd) (fun _ => (kk H locs lsA hH hL hl hll))
      · split at ha
        · rename_i hcnd
          cases ha
          exact lv_icmp_le hx hb hdec (of_decide_eq_true hck) (fun _ => (kk H locs lsA hH hL hl hll)) (fun q => absurd hcnd q)
        · rename_i hcnd
          cases ha
          exact lv_icmp_le hx hb hdec (of_decide_eq_true hck) (fun q => absurd q hcnd) (fun _ => (kk H locs lsA hH hL hl hll))
    · cases ha
  · rename_i cd off
    obtain rfl : n = 3 := of_decide_eq_true hlen
    split at ha
    · rename_i b1 a1 r
      split at ha
      · rename_i a2 b2 e1 e2
        rw [sn_rf e1, sn_rf e2]
        unfold am_abr at ha
        split at ha
        · split at ha
          · rename_i hcnd
            cases ha
            exact lv_acmp_eq hx hb hdec (of_decide_eq_true hck) (fun _ => (kk H locs lsA hH hL hl hll)) (fun q => absurd hcnd q)
          · rename_i hcnd
            cases ha
            exact lv_acmp_eq hx hb hdec (of_decide_eq_true hck) (fun q => absurd q hcnd) (fun _ => (kk H locs lsA hH hL hl hll))
        · split at ha
          · rename_i hcnd
            cases ha
            exact lv_acmp_ne hx hb hdec (of_decide_eq_true hck) (fun q => absurd hcnd q) (fun _ => (kk H locs lsA hH hL hl hll))
          · rename_i hcnd
            cases ha
            exact lv_acmp_ne hx hb hdec (of_decide_eq_true hck) (fun _ => (kk H locs lsA hH hL hl hll)) (fun q => absurd q hcnd)
      · cases ha
    · cases ha
  · rename_i off
    obtain rfl : n = 3 := of_decide_eq_true hlen
    split at ha
    · cases ha
      exact lv_ifnullN hx hb hdec (of_decide_eq_true hck) (kk H locs lsA hH hL hl hll)
    · cases ha
      exact lv_ifnull hx hb hdec (kk H locs lsA hH hL hl hll)
    · cases ha
  · rename_i off
    obtain rfl : n = 3 := of_decide_eq_true hlen
    split at ha
    · cases ha
      exact lv_ifnonnullN hx hb hdec (kk H locs lsA hH hL hl hll)
    · cases ha
      exact lv_ifnonnull hx hb hdec (of_decide_eq_true hck) (kk H locs lsA hH hL hl hll)
    · cases ha
  · rename_i dd lo hi offs
    split at ha
    · rename_i a r
      cases ha
      simp only [sn_ck, Bool.and_eq_true, decide_eq_true_eq] at hck
      obtain ⟨rfl, h2, h3, h4, h5, h6⟩ := hck
      rcases sn_sw (x := a) h2 h4 h5 (fun j hj => by
        have h7 := List.all_eq_true.mp h6 j (List.mem_range.mpr hj)
        split at h7
        · rename_i o q e1 e2
          simp only [Bool.and_eq_true, decide_eq_true_eq] at h7
          obtain ⟨q1, q2⟩ := q
          obtain ⟨rfl, h8⟩ := h7
          exact ⟨o, q2, e1, e2, h8⟩
        · cases h7) with ⟨g1, g2⟩ | ⟨o, g1, g2, g3, g4⟩
      · rw [g2] at kk
        exact lv_tableOut hx hb hdec (by omega) h2 (kk H locs lsA hH hL hl hll)
      · exact lv_tableIn hx hb hdec g1 (by omega) (by rw [Int.sub_zero]; exact g3) g4 (kk H locs lsA hH hL hl hll)
    · cases ha
  · rename_i idx
    obtain rfl : n = 3 := of_decide_eq_true hlen
    split at ha
    · split at ha
      · rename_i v hv
        cases ha
        exact sn_w_get hx hb hts hown hK hH hck hv hdec (kk H locs lsA hH hL hl hll)
      · cases ha
    · cases ha
  · rename_i idx
    obtain rfl : n = 3 := of_decide_eq_true hlen
    split at ha
    · split at ha
      · rename_i h9 hv
        cases ha
        obtain ⟨e1, e2⟩ := sn_pf_n hv
        rw [e1, e2] at kk
        exact sn_w_put hx hb hts hown hK hH hnm hck hv hl hdec (fun H1 locs1 g1 g2 => kk H1 locs1 lsA g1 hL g2 hll)
      · cases ha
    · cases ha
  · rename_i idx
    obtain rfl : n = 3 := of_decide_eq_true hlen
    cases ha
    exact sn_w_stat hx hb hts hown hK hH (sn_mem_in hck) hdec (kk H locs lsA hH hL hl hll)
  · rename_i idx
    obtain rfl : n = 3 := of_decide_eq_true hlen
    cases ha
    simp only [sn_ck] at hck
    split at hck
    · rename_i r hr
      obtain ⟨C, T, N⟩ := r
      simp only [Bool.and_eq_true] at hck
      obtain ⟨h1, h2, h3⟩ := hck
      have hN : (p_df x.1).length = N := (sn_cls x.1 C T N hr).2.2.2.2
      simp only [ah_new] at hRc hRs
      refine sn_w_new hx hb hts hown hK hH hr (sn_mem_in h1) (sn_mem_in h2) (sn_mem_in h3) (by omega) (by omega) hdec (fun H1 g1 => ?_)
      have := kk H1 locs lsA g1 hL hl hll
      simp only [ah_new] at this
      rw [show h.1 + 1 - n0 = h.1 - n0 + 1 by omega, show h.2.1 + (p_df x.1).length - s0 = h.2.1 - s0 + N by omega] at this
      exact this
    · cases hck
  · rename_i ty9
    obtain rfl : n = 2 := of_decide_eq_true hlen
    split at ha
    · rename_i nn r
      split at ha
      · cases ha
      · rename_i hn
        cases ha
        obtain rfl := of_decide_eq_true hck
        simp only [ah_new] at hRc hRs
        refine sn_w_newa hx hb hK hH hts (sn_glob 4 rfl) hn (by omega) (by omega) hdec (fun H1 g1 => ?_)
        have := kk H1 locs lsA g1 hL hl hll
        simp only [ah_new] at this
        rw [show h.1 + 1 - n0 = h.1 - n0 + 1 by omega, show h.2.1 + nn.toNatClampNeg - s0 = h.2.1 - s0 + nn.toNatClampNeg by omega] at this
        exact this
    · cases ha
  · rename_i idx
    obtain rfl : n = 3 := of_decide_eq_true hlen
    split at ha
    · rename_i nn r
      split at ha
      · cases ha
      · rename_i hn
        cases ha
        simp only [ah_new] at hRc hRs
        refine sn_w_newr hx hb hK hH hts hown (sn_mem_in hck) hn (by omega) (by omega) hdec (fun H1 g1 => ?_)
        have := kk H1 locs lsA g1 hL hl hll
        simp only [ah_new] at this
        rw [show h.1 + 1 - n0 = h.1 - n0 + 1 by omega, show h.2.1 + nn.toNatClampNeg - s0 = h.2.1 - s0 + nn.toNatClampNeg by omega] at this
        exact this
    · cases ha
  · obtain rfl : n = 1 := of_decide_eq_true hlen
    split at ha
    · split at ha
      · rename_i v hv
        cases ha
        exact sn_w_iald hx hb hK hH hv hdec (kk H locs lsA hH hL hl hll)
      · cases ha
    · cases ha
  · obtain rfl : n = 1 := of_decide_eq_true hlen
    split at ha
    · split at ha
      · rename_i h9 hv
        cases ha
        obtain ⟨e1, e2⟩ := sn_iast_n hv
        rw [e1, e2] at kk
        exact sn_w_iast hx hb hK hH hv hl hdec (fun H1 locs1 g1 g2 => kk H1 locs1 lsA g1 hL g2 hll)
      · cases ha
    · cases ha
  · obtain rfl : n = 1 := of_decide_eq_true hlen
    split at ha
    · split at ha
      · rename_i v hv
        cases ha
        exact sn_w_aald hx hb hK hH hv hdec (kk H locs lsA hH hL hl hll)
      · cases ha
    · cases ha
  · obtain rfl : n = 1 := of_decide_eq_true hlen
    split at ha
    · split at ha
      · rename_i h9 hv
        cases ha
        obtain ⟨e1, e2⟩ := sn_aast_n hv
        rw [e1, e2] at kk
        exact sn_w_aast hx hb hK hH hv hl hdec (fun H1 locs1 g1 g2 => kk H1 locs1 lsA g1 hL g2 hll)
      · cases ha
    · cases ha
  · obtain rfl : n = 1 := of_decide_eq_true hlen
    split at ha
    · split at ha
      · rename_i v hv
        cases ha
        exact sn_w_alen hx hb hK hH hv hdec (kk H locs lsA hH hL hl hll)
      · cases ha
    · cases ha
  · rename_i idx
    obtain rfl : n = 3 := of_decide_eq_true hlen
    split at ha
    · cases ha
      exact lv_castN hx hb hdec (kk H locs lsA hH hL hl hll)
    · split at ha
      · rename_i hc
        cases ha
        simp only [sn_ck] at hck
        split at hck
        · rename_i r hr
          obtain ⟨C, T, N⟩ := r
          exact sn_w_cast hx hb hts hown hK hH hr (sn_mem_in hck) hc hdec (kk H locs lsA hH hL hl hll)
        · cases hck
      · cases ha
    · cases ha
  · split at ha
    · split at ha <;> cases ha
    · cases ha
  · split at ha <;> cases ha
  · split at ha <;> cases ha
  · split at ha <;> cases ha
  · rename_i idx
    obtain rfl : n = 3 := of_decide_eq_true hlen
    split at ha
    · rename_i hk9
      split at ha
      · split at ha
        · rename_i hcnd
          split at ha
          · rename_i h9 hv
            cases ha
            obtain ⟨rfl, rfl, hrl⟩ := hcnd
            obtain ⟨e1, e2⟩ := sn_copy_n hv
            rw [e1, e2] at kk
            simp only [sn_ck, if_pos hk9, Bool.and_eq_true, decide_eq_true_eq] at hck
            exact sn_w_copy hx hb hsz hts hown hK hH (sn_mem_in hck.1) hv hl (by omega) (by omega) hrl hdec (fun H1 locs1 g1 g2 => kk H1 locs1 lsA g1 hL g2 hll)
          · cases ha
        · cases ha
      · cases ha
    · split at ha
      · split at ha <;> cases ha
      · cases ha
  · rename_i idx
    obtain rfl : n = 3 := of_decide_eq_true hlen
    split at ha
    · rename_i hk9
      split at ha
      · split at ha
        · rename_i hrl
          cases ha
          have hwd := sn_words hrl
          simp only [sn_ck, if_pos hk9, Bool.and_eq_true, decide_eq_true_eq] at hck
          exact W.objInit hx hb hown (hts _ (sn_mem_in hck.1)) (hts _ (sn_glob 3 rfl)) (hts _ sn_objInit) rfl hsz.symm rfl hdec (by omega) (by show 2 * 0 + _ + 12 ≤ _; omega) (kk H locs lsA hH hL hl hll)
        · cases ha
      · cases ha
    · split at ha
      · split at ha <;> cases ha
      · cases ha
  · rename_i idx
    obtain rfl : n = 3 := of_decide_eq_true hlen
    split at ha
    · rename_i hk9
      split at ha
      · split at ha
        · rename_i q hc
          split at ha
          · rename_i hrl
            cases ha
            simp only [sn_ck, if_pos hk9, Bool.and_eq_true, decide_eq_true_eq] at hck
            exact sn_w_getC (n := q.1) (f := q.2) hx hb hsz hts hown hK hH (sn_mem_in hck.1) hc (by omega) (by omega) hrl hdec (kk H locs lsA hH hL hl hll)
          · cases ha
        · cases ha
      · cases ha
    · split at ha
      · split at ha
        · split at ha
          · split at ha <;> cases ha
          · cases ha
        · cases ha
      · cases ha
  · cases ha
end Go
end
section
/-! What an instruction can do: the heap never shrinks; an answer; a call. -/
section Act
variable {P : Nat × Nat} {rt : Option FieldType} {pc : Nat} {i : Instr} {x : am_X} {ls : am_L} {st : List Value} {h : am_H}
set_option maxHeartbeats 4000000 in
theorem sn_act_le {pc' : Nat} {ls' : am_L} {st' : List Value} {h' : am_H} (ha : am_act P p_ty p_df rt pc i x ls st h = some (.inr (.inl (pc', ls', st', h')))) : h.1 ≤ h'.1 ∧ h.2.1 ≤ h'.2.1 := by
  unfold am_act at ha
  split at ha
  all_goals first
    | (first | (cases ha <;> (first | exact ⟨Nat.le_refl _, Nat.le_refl _⟩ | exact ⟨Nat.le_succ _, Nat.le_add_right _ _⟩ | exact ⟨Nat.le_of_eq (sn_pf_n (by assumption)).1.symm, Nat.le_of_eq (sn_pf_n (by assumption)).2.symm⟩ | exact ⟨Nat.le_of_eq (sn_iast_n (by assumption)).1.symm, Nat.le_of_eq (sn_iast_n (by assumption)).2.symm⟩ | exact ⟨Nat.le_of_eq (sn_aast_n (by assumption)).1.symm, Nat.le_of_eq (sn_aast_n (by assumption)).2.symm⟩ | exact ⟨Nat.le_of_eq (sn_copy_n (by assumption)).1.symm, Nat.le_of_eq (sn_copy_n (by assumption)).2.symm⟩)) | (split at ha <;> (first | (cases ha <;> (first | exact ⟨Nat.le_refl _, Nat.le_refl _⟩ | exact ⟨Nat.le_succ _, Nat.le_add_right _ _⟩ | exact ⟨Nat.le_of_eq (sn_pf_n (by assumption)).1.symm, Nat.le_of_eq (sn_pf_n (by assumption)).2.symm⟩ | exact ⟨Nat.le_of_eq (sn_iast_n (by assumption)).1.symm, Nat.le_of_eq (sn_iast_n (by assumption)).2.symm⟩ | exact ⟨Nat.le_of_eq (sn_aast_n (by assumption)).1.symm, Nat.le_of_eq (sn_aast_n (by assumption)).2.symm⟩ | exact ⟨Nat.le_of_eq (sn_copy_n (by assumption)).1.symm, Nat.le_of_eq (sn_copy_n (by assumption)).2.symm⟩)) | (split at ha <;> (first | (cases ha <;> (first | exact ⟨Nat.le_refl _, Nat.le_refl _⟩ | exact ⟨Nat.le_succ _, Nat.le_add_right _ _⟩ | exact ⟨Nat.le_of_eq (sn_pf_n (by assumption)).1.symm, Nat.le_of_eq (sn_pf_n (by assumption)).2.symm⟩ | exact ⟨Nat.le_of_eq (sn_iast_n (by assumption)).1.symm, Nat.le_of_eq (sn_iast_n (by assumption)).2.symm⟩ | exact ⟨Nat.le_of_eq (sn_aast_n (by assumption)).1.symm, Nat.le_of_eq (sn_aast_n (by assumption)).2.symm⟩ | exact ⟨Nat.le_of_eq (sn_copy_n (by assumption)).1.symm, Nat.le_of_eq (sn_copy_n (by assumption)).2.symm⟩)) | (split at ha <;> (first | (cases ha <;> (first | exact ⟨Nat.le_refl _, Nat.le_refl _⟩ | exact ⟨Nat.le_succ _, Nat.le_add_right _ _⟩ | exact ⟨Nat.le_of_eq (sn_pf_n (by assumption)).1.symm, Nat.le_of_eq (sn_pf_n (by assumption)).2.symm⟩ | exact ⟨Nat.le_of_eq (sn_iast_n (by assumption)).1.symm, Nat.le_of_eq (sn_iast_n (by assumption)).2.symm⟩ | exact ⟨Nat.le_of_eq (sn_aast_n (by assumption)).1.symm, Nat.le_of_eq (sn_aast_n (by assumption)).2.symm⟩ | exact ⟨Nat.le_of_eq (sn_copy_n (by assumption)).1.symm, Nat.le_of_eq (sn_copy_n (by assumption)).2.symm⟩)) | (split at ha <;> (first | (cases ha <;> (first | exact ⟨Nat.le_refl _, Nat.le_refl _⟩ | exact ⟨Nat.le_succ _, Nat.le_add_right _ _⟩ | exact ⟨Nat.le_of_eq (sn_pf_n (by assumption)).1.symm, Nat.le_of_eq (sn_pf_n (by assumption)).2.symm⟩ | exact ⟨Nat.le_of_eq (sn_iast_n (by assumption)).1.symm, Nat.le_of_eq (sn_iast_n (by assumption)).2.symm⟩ | exact ⟨Nat.le_of_eq (sn_aast_n (by assumption)).1.symm, Nat.le_of_eq (sn_aast_n (by assumption)).2.symm⟩ | exact ⟨Nat.le_of_eq (sn_copy_n (by assumption)).1.symm, Nat.le_of_eq (sn_copy_n (by assumption)).2.symm⟩)) | (split at ha <;> (cases ha <;> (first | exact ⟨Nat.le_refl _, Nat.le_refl _⟩ | exact ⟨Nat.le_succ _, Nat.le_add_right _ _⟩ | exact ⟨Nat.le_of_eq (sn_pf_n (by assumption)).1.symm, Nat.le_of_eq (sn_pf_n (by assumption)).2.symm⟩ | exact ⟨Nat.le_of_eq (sn_iast_n (by assumption)).1.symm, Nat.le_of_eq (sn_iast_n (by assumption)).2.symm⟩ | exact ⟨Nat.le_of_eq (sn_aast_n (by assumption)).1.symm, Nat.le_of_eq (sn_aast_n (by assumption)).2.symm⟩ | exact ⟨Nat.le_of_eq (sn_copy_n (by assumption)).1.symm, Nat.le_of_eq (sn_copy_n (by assumption)).2.symm⟩))))))))))))
    | (unfold am_br at ha; split at ha <;> split at ha <;> (cases ha <;> (first | exact ⟨Nat.le_refl _, Nat.le_refl _⟩ | exact ⟨Nat.le_succ _, Nat.le_add_right _ _⟩ | exact ⟨Nat.le_of_eq (sn_pf_n (by assumption)).1.symm, Nat.le_of_eq (sn_pf_n (by assumption)).2.symm⟩ | exact ⟨Nat.le_of_eq (sn_iast_n (by assumption)).1.symm, Nat.le_of_eq (sn_iast_n (by assumption)).2.symm⟩ | exact ⟨Nat.le_of_eq (sn_aast_n (by assumption)).1.symm, Nat.le_of_eq (sn_aast_n (by assumption)).2.symm⟩ | exact ⟨Nat.le_of_eq (sn_copy_n (by assumption)).1.symm, Nat.le_of_eq (sn_copy_n (by assumption)).2.symm⟩)))
    | (split at ha <;> (first | (cases ha <;> (first | exact ⟨Nat.le_refl _, Nat.le_refl _⟩ | exact ⟨Nat.le_succ _, Nat.le_add_right _ _⟩ | exact ⟨Nat.le_of_eq (sn_pf_n (by assumption)).1.symm, Nat.le_of_eq (sn_pf_n (by assumption)).2.symm⟩ | exact ⟨Nat.le_of_eq (sn_iast_n (by assumption)).1.symm, Nat.le_of_eq (sn_iast_n (by assumption)).2.symm⟩ | exact ⟨Nat.le_of_eq (sn_aast_n (by assumption)).1.symm, Nat.le_of_eq (sn_aast_n (by assumption)).2.symm⟩ | exact ⟨Nat.le_of_eq (sn_copy_n (by assumption)).1.symm, Nat.le_of_eq (sn_copy_n (by assumption)).2.symm⟩)) | (unfold am_br at ha; split at ha <;> split at ha <;> (cases ha <;> (first | exact ⟨Nat.le_refl _, Nat.le_refl _⟩ | exact ⟨Nat.le_succ _, Nat.le_add_right _ _⟩ | exact ⟨Nat.le_of_eq (sn_pf_n (by assumption)).1.symm, Nat.le_of_eq (sn_pf_n (by assumption)).2.symm⟩ | exact ⟨Nat.le_of_eq (sn_iast_n (by assumption)).1.symm, Nat.le_of_eq (sn_iast_n (by assumption)).2.symm⟩ | exact ⟨Nat.le_of_eq (sn_aast_n (by assumption)).1.symm, Nat.le_of_eq (sn_aast_n (by assumption)).2.symm⟩ | exact ⟨Nat.le_of_eq (sn_copy_n (by assumption)).1.symm, Nat.le_of_eq (sn_copy_n (by assumption)).2.symm⟩)))))
    | (split at ha <;> (first | (cases ha <;> (first | exact ⟨Nat.le_refl _, Nat.le_refl _⟩ | exact ⟨Nat.le_succ _, Nat.le_add_right _ _⟩ | exact ⟨Nat.le_of_eq (sn_pf_n (by assumption)).1.symm, Nat.le_of_eq (sn_pf_n (by assumption)).2.symm⟩ | exact ⟨Nat.le_of_eq (sn_iast_n (by assumption)).1.symm, Nat.le_of_eq (sn_iast_n (by assumption)).2.symm⟩ | exact ⟨Nat.le_of_eq (sn_aast_n (by assumption)).1.symm, Nat.le_of_eq (sn_aast_n (by assumption)).2.symm⟩ | exact ⟨Nat.le_of_eq (sn_copy_n (by assumption)).1.symm, Nat.le_of_eq (sn_copy_n (by assumption)).2.symm⟩)) | (split at ha <;> (first | (cases ha <;> (first | exact ⟨Nat.le_refl _, Nat.le_refl _⟩ | exact ⟨Nat.le_succ _, Nat.le_add_right _ _⟩ | exact ⟨Nat.le_of_eq (sn_pf_n (by assumption)).1.symm, Nat.le_of_eq (sn_pf_n (by assumption)).2.symm⟩ | exact ⟨Nat.le_of_eq (sn_iast_n (by assumption)).1.symm, Nat.le_of_eq (sn_iast_n (by assumption)).2.symm⟩ | exact ⟨Nat.le_of_eq (sn_aast_n (by assumption)).1.symm, Nat.le_of_eq (sn_aast_n (by assumption)).2.symm⟩ | exact ⟨Nat.le_of_eq (sn_copy_n (by assumption)).1.symm, Nat.le_of_eq (sn_copy_n (by assumption)).2.symm⟩)) | (unfold am_abr at ha; split at ha <;> split at ha <;> (cases ha <;> (first | exact ⟨Nat.le_refl _, Nat.le_refl _⟩ | exact ⟨Nat.le_succ _, Nat.le_add_right _ _⟩ | exact ⟨Nat.le_of_eq (sn_pf_n (by assumption)).1.symm, Nat.le_of_eq (sn_pf_n (by assumption)).2.symm⟩ | exact ⟨Nat.le_of_eq (sn_iast_n (by assumption)).1.symm, Nat.le_of_eq (sn_iast_n (by assumption)).2.symm⟩ | exact ⟨Nat.le_of_eq (sn_aast_n (by assumption)).1.symm, Nat.le_of_eq (sn_aast_n (by assumption)).2.symm⟩ | exact ⟨Nat.le_of_eq (sn_copy_n (by assumption)).1.symm, Nat.le_of_eq (sn_copy_n (by assumption)).2.symm⟩)))))))
set_option maxHeartbeats 4000000 in
theorem sn_act_ret {r : Option Value} {h' : am_H} {M : am_M} {n : Nat} (hrt : rt = M.2.2.2.1) (hdec : decode M.2.1 pc = .ok (i, n)) (hlen : (sn_isSw i || decide (n = sn_len i)) = true) (hck : sn_ck M pc i x = true) (ha : am_act P p_ty p_df rt pc i x ls st h = some (.inl (r, h'))) : h' = h ∧ st = r.toList ∧ sn_ret M pc r := by
  unfold am_act at ha
  split at ha
  case h_48 =>
    obtain rfl : n = 1 := of_decide_eq_true hlen
    split at ha
    · split at ha
      · rename_i hr
        cases ha
        exact ⟨rfl, rfl, Or.inr (Or.inl ⟨_, rfl, hdec, by rw [← hrt]; exact hr⟩)⟩
      · cases ha
    · cases ha
  case h_49 =>
    obtain rfl : n = 1 := of_decide_eq_true hlen
    split at ha
    · cases ha
      exact ⟨rfl, rfl, Or.inr (Or.inr (Or.inl ⟨_, rfl, hdec, of_decide_eq_true hck⟩))⟩
    · cases ha
  case h_50 =>
    obtain rfl : n = 1 := of_decide_eq_true hlen
    have hrr : ∃ rt9, M.2.2.2.1 = some rt9 ∧ ((∃ n, rt9 = .object n) ∨ ∃ t, rt9 = .array t) := by
      simp only [sn_ck] at hck
      split at hck
      · rename_i e1; exact ⟨_, e1, Or.inl ⟨_, rfl⟩⟩
      · rename_i e1; exact ⟨_, e1, Or.inr ⟨_, rfl⟩⟩
      · cases hck
    obtain ⟨rt9, e1, e2⟩ := hrr
    split at ha
    · cases ha
      exact ⟨rfl, rfl, Or.inr (Or.inr (Or.inr ⟨_, rt9, rfl, hdec, e1, e2, Or.inr ⟨_, rfl⟩⟩))⟩
    · cases ha
      exact ⟨rfl, rfl, Or.inr (Or.inr (Or.inr ⟨_, rt9, rfl, hdec, e1, e2, Or.inl rfl⟩))⟩
    · cases ha
  case h_51 =>
    obtain rfl : n = 1 := of_decide_eq_true hlen
    split at ha
    · cases ha
      exact ⟨rfl, rfl, Or.inl ⟨rfl, hdec, of_decide_eq_true hck⟩⟩
    · cases ha
  all_goals first
    | (first | (cases ha <;> skip) | (split at ha <;> (first | (cases ha <;> skip) | (split at ha <;> (first | (cases ha <;> skip) | (split at ha <;> (first | (cases ha <;> skip) | (split at ha <;> (first | (cases ha <;> skip) | (split at ha <;> (cases ha <;> skip)))))))))))
    | (unfold am_br at ha; split at ha <;> split at ha <;> (cases ha <;> skip))
    | (split at ha <;> (first | (cases ha <;> skip) | (unfold am_br at ha; split at ha <;> split at ha <;> (cases ha <;> skip))))
    | (split at ha <;> (first | (cases ha <;> skip) | (split at ha <;> (first | (cases ha <;> skip) | (unfold am_abr at ha; split at ha <;> split at ha <;> (cases ha <;> skip))))))
set_option maxHeartbeats 4000000 in
theorem sn_act_call {cy : Nat} {as rr : List Value} (ha : am_act P p_ty p_df rt pc i x ls st h = some (.inr (.inr (cy, as, rr)))) : cy = x.1 ∧ rr.length ≤ 4 ∧
    ((∃ idx, i = .invokestatic idx ∧ ¬ x.2.2.2.1 = 11 ∧ am_pop x.2.1 [] st = some (as, rr) ∧ as.all am_c1 = true) ∨
     (∃ idx a as', i = .invokespecial idx ∧ ¬ x.2.2.2.1 = 10 ∧ as = .ref a :: as' ∧ am_pop x.2.1 [] st = some (as', .ref a :: rr) ∧ as'.all am_c1 = true) ∨
     (∃ idx a as' ci z, i = .invokevirtual idx ∧ ¬ x.2.2.2.1 = 13 ∧ as = .ref a :: as' ∧ am_pop x.2.1 [] st = some (as', .ref a :: rr) ∧ as'.all am_c1 = true ∧ am_cls h a = some ci ∧ x.2.2.1.lookup ci = some z)) := by
  unfold am_act at ha
  split at ha
  case h_52 idx =>
    split at ha
    · split at ha
      · split at ha
        · split at ha <;> cases ha
        · cases ha
      · cases ha
    · rename_i hk
      split at ha
      · rename_i as9 r9 hp
        split at ha
        · rename_i hc
          cases ha
          rw [Bool.and_eq_true] at hc
          exact ⟨rfl, Nat.le_of_ble_eq_true hc.1, Or.inl ⟨idx, rfl, hk, hp, hc.2⟩⟩
        · cases ha
      · cases ha
  case h_53 idx =>
    split at ha
    · split at ha
      · split at ha <;> cases ha
      · cases ha
    · rename_i hk
      split at ha
      · rename_i as9 a9 r9 hp
        split at ha
        · rename_i hc
          cases ha
          rw [Bool.and_eq_true] at hc
          exact ⟨rfl, Nat.le_of_ble_eq_true hc.1, Or.inr (Or.inl ⟨idx, a9, as9, rfl, hk, rfl, hp, hc.2⟩)⟩
        · cases ha
      · cases ha
  case h_54 idx =>
    split at ha
    · split at ha
      · split at ha
        · split at ha <;> cases ha
        · cases ha
      · cases ha
    · rename_i hk
      split at ha
      · rename_i as9 a9 r9 hp
        split at ha
        · rename_i ci hci
          split at ha
          · rename_i z hz
            split at ha
            · rename_i hc
              cases ha
              rw [Bool.and_eq_true] at hc
              exact ⟨rfl, Nat.le_of_ble_eq_true hc.1, Or.inr (Or.inr ⟨idx, a9, as9, ci, z, rfl, hk, rfl, hp, hc.2, hci, hz⟩)⟩
            · cases ha
          · cases ha
        · cases ha
      · cases ha
  all_goals first
    | (first | (cases ha <;> skip) | (split at ha <;> (first | (cases ha <;> skip) | (split at ha <;> (first | (cases ha <;> skip) | (split at ha <;> (first | (cases ha <;> skip) | (split at ha <;> (first | (cases ha <;> skip) | (split at ha <;> (cases ha <;> skip)))))))))))
    | (unfold am_br at ha; split at ha <;> split at ha <;> (cases ha <;> skip))
    | (split at ha <;> (first | (cases ha <;> skip) | (unfold am_br at ha; split at ha <;> split at ha <;> (cases ha <;> skip))))
    | (split at ha <;> (first | (cases ha <;> skip) | (split at ha <;> (first | (cases ha <;> skip) | (unfold am_abr at ha; split at ha <;> split at ha <;> (cases ha <;> skip))))))
end Act
end
section
/-! The whole: a run of the abstract machine is a run of the machine. -/
def sn_F (Z : am_M → am_T → Prop) : List am_M → List am_T → Prop
  | [], [] => True
  | a :: as, b :: bs => Z a b ∧ sn_F Z as bs
  | _, _ => False
theorem sn_F_get {Z : am_M → am_T → Prop} : ∀ {as : List am_M} {bs : List am_T} {i : Nat} {a : am_M} {b : am_T}, sn_F Z as bs → as[i]? = some a → bs[i]? = some b → Z a b := by
  intro as
  induction as with
  | nil => intro bs i a b _ ha; cases ha
  | cons q as ih =>
    intro bs i a b h ha hb
    cases bs with
    | nil => cases hb
    | cons z bs =>
      cases i with
      | zero => cases ha; cases hb; exact h.1
      | succ i => exact ih h.2 ha hb
set_option maxRecDepth 100000 in
theorem sn_rows_all : sn_F (fun M t => t.all (sn_row M) = true) p_ms p_tbs := ⟨q_r0, q_r1, q_r2, q_r3, q_r4, q_r5, q_r6, q_r7, q_r8, q_r9, q_r10, q_r11, q_r12, q_r13, q_r14, q_r15, q_r16, q_r17, q_r18, q_r19, q_r20, q_r21, q_r22, q_r23, q_r24, q_r25, q_r26, q_r27, q_r28, q_r29, q_r30, q_r31, q_r32, q_r33, q_r34, q_r35, q_r36, q_r37, q_r38, q_r39, q_r40, q_r41, q_r42, q_r43, q_r44, q_r45, q_r46, q_r47, q_r48, q_r49, q_r50, q_r51, q_r52, q_r53, q_r54, q_r55, q_r56, q_r57, q_r58, q_r59, q_r60, q_r61, q_r62, q_r63, q_r64, q_r65, q_r66, q_r67, q_r68, q_r69, q_r70, q_r71, q_r72, q_r73, q_r74, q_r75, q_r76, q_r77, q_r78, q_r79, q_r80, q_r81, q_r82, q_r83, q_r84, q_r85, q_r86, q_r87, q_r88, q_r89, q_r90, q_r91, q_r92, q_r93, q_r94, q_r95, q_r96, q_r97, q_r98, q_r99, q_r100, q_r101, q_r102, q_r103, q_r104, q_r105, q_r106, q_r107, q_r108, q_r109, q_r110, q_r111, q_r112, q_r113, q_r114, q_r115, q_r116, q_r117, q_r118, q_r119, q_r120, q_r121, q_r122, q_r123, q_r124, q_r125, q_r126, q_r127, q_r128, q_r129, q_r130, trivial⟩
theorem sn_rows {mi pc n : Nat} {M : am_M} {i : Instr} {x : am_X} (hM : p_ms[mi]? = some M) (hp : p_at mi pc = some (i, n, x)) : decode M.2.1 pc = .ok (i, n) ∧ (sn_isSw i || decide (n = sn_len i)) = true ∧ sn_ck M pc i x = true := by
  unfold p_at at hp
  split at hp
  · rename_i t ht
    have h1 : t.all (sn_row M) = true := sn_F_get sn_rows_all hM ht
    have hm : (pc, i, n, x) ∈ t := by
      clear h1 ht
      induction t with
      | nil => cases hp
      | cons q t ih =>
        obtain ⟨q1, q2⟩ := q
        rw [List.lookup_cons] at hp
        split at hp
        · rename_i hq
          cases hp
          rw [eq_of_beq hq]
          exact List.mem_cons_self
        · exact List.mem_cons_of_mem _ (ih hp)
    have h2 := List.all_eq_true.mp h1 _ hm
    simp only [sn_row, Bool.and_eq_true, decide_eq_true_eq] at h2
    exact h2
  · cases hp
def sn_Gs (Z : Nat → am_M → Prop) : Nat → List am_M → Prop
  | _, [] => True
  | k, a :: as => Z k a ∧ sn_Gs Z (k + 1) as
theorem sn_Gs_get {Z : Nat → am_M → Prop} : ∀ {as : List am_M} {k i : Nat} {a : am_M}, sn_Gs Z k as → as[i]? = some a → Z (k + i) a := by
  intro as
  induction as with
  | nil => intro k i a _ ha; cases ha
  | cons q as ih =>
    intro k i a h ha
    cases i with
    | zero => cases ha; exact h.1
    | succ i =>
      have := ih (i := i) h.2 ha
      rw [show k + 1 + i = k + (i + 1) by omega] at this
      exact this
set_option maxRecDepth 100000 in
theorem sn_codes_all : sn_Gs (fun k M => k < 130 → Jvm.Cond.code M.1 M.2.1 M.2.2.1 M.2.2.2.1 ∈ sn_gw) 0 p_ms := ⟨fun _ => q_c0, fun _ => q_c1, fun _ => q_c2, fun _ => q_c3, fun _ => q_c4, fun _ => q_c5, fun _ => q_c6, fun _ => q_c7, fun _ => q_c8, fun _ => q_c9, fun _ => q_c10, fun _ => q_c11, fun _ => q_c12, fun _ => q_c13, fun _ => q_c14, fun _ => q_c15, fun _ => q_c16, fun _ => q_c17, fun _ => q_c18, fun _ => q_c19, fun _ => q_c20, fun _ => q_c21, fun _ => q_c22, fun _ => q_c23, fun _ => q_c24, fun _ => q_c25, fun _ => q_c26, fun _ => q_c27, fun _ => q_c28, fun _ => q_c29, fun _ => q_c30, fun _ => q_c31, fun _ => q_c32, fun _ => q_c33, fun _ => q_c34, fun _ => q_c35, fun _ => q_c36, fun _ => q_c37, fun _ => q_c38, fun _ => q_c39, fun _ => q_c40, fun _ => q_c41, fun _ => q_c42, fun _ => q_c43, fun _ => q_c44, fun _ => q_c45, fun _ => q_c46, fun _ => q_c47, fun _ => q_c48, fun _ => q_c49, fun _ => q_c50, fun _ => q_c51, fun _ => q_c52, fun _ => q_c53, fun _ => q_c54, fun _ => q_c55, fun _ => q_c56, fun _ => q_c57, fun _ => q_c58, fun _ => q_c59, fun _ => q_c60, fun _ => q_c61, fun _ => q_c62, fun _ => q_c63, fun _ => q_c64, fun _ => q_c65, fun _ => q_c66, fun _ => q_c67, fun _ => q_c68, fun _ => q_c69, fun _ => q_c70, fun _ => q_c71, fun _ => q_c72, fun _ => q_c73, fun _ => q_c74, fun _ => q_c75, fun _ => q_c76, fun _ => q_c77, fun _ => q_c78, fun _ => q_c79, fun _ => q_c80, fun _ => q_c81, fun _ => q_c82, fun _ => q_c83, fun _ => q_c84, fun _ => q_c85, fun _ => q_c86, fun _ => q_c87, fun _ => q_c88, fun _ => q_c89, fun _ => q_c90, fun _ => q_c91, fun _ => q_c92, fun _ => q_c93, fun _ => q_c94, fun _ => q_c95, fun _ => q_c96, fun _ => q_c97, fun _ => q_c98, fun _ => q_c99, fun _ => q_c100, fun _ => q_c101, fun _ => q_c102, fun _ => q_c103, fun _ => q_c104, fun _ => q_c105, fun _ => q_c106, fun _ => q_c107, fun _ => q_c108, fun _ => q_c109, fun _ => q_c110, fun _ => q_c111, fun _ => q_c112, fun _ => q_c113, fun _ => q_c114, fun _ => q_c115, fun _ => q_c116, fun _ => q_c117, fun _ => q_c118, fun _ => q_c119, fun _ => q_c120, fun _ => q_c121, fun _ => q_c122, fun _ => q_c123, fun _ => q_c124, fun _ => q_c125, fun _ => q_c126, fun _ => q_c127, fun _ => q_c128, fun _ => q_c129, fun h => absurd h (by decide), trivial⟩
theorem sn_codes {mi : Nat} {M : am_M} (hM : p_ms[mi]? = some M) (h : mi < 130) : Jvm.Cond.code M.1 M.2.1 M.2.2.1 M.2.2.2.1 ∈ sn_gw := by
  have := sn_Gs_get sn_codes_all hM
  rw [Nat.zero_add] at this
  exact this h
def sn_msok : Bool := (List.range 131).all (fun mi => match p_ms[mi]? with
  | some M => plainFor M.1 && (decide (p_ml mi = M.2.2.1) && decide (p_rt mi = M.2.2.2.1))
  | none => false)
theorem sn_msok_ok : sn_msok = true := by decide +kernel
theorem sn_ms {mi : Nat} {M : am_M} (hM : p_ms[mi]? = some M) : plainFor M.1 = true ∧ p_ml mi = M.2.2.1 ∧ p_rt mi = M.2.2.2.1 := by
  have hlt : mi < p_ms.length := (List.getElem?_eq_some_iff.mp hM).1
  have h1 := List.all_eq_true.mp sn_msok_ok mi (List.mem_range.mpr hlt)
  simp only [hM, Bool.and_eq_true, decide_eq_true_eq] at h1
  exact h1
/-- no call goes to the law -/
def sn_noL : Bool := p_tbs.all (fun t => t.all (fun r => match r.2.1 with
  | .invokestatic _ => Nat.blt r.2.2.2.1 130
  | .invokespecial _ => Nat.blt r.2.2.2.1 130
  | .invokevirtual _ => Nat.blt r.2.2.2.1 130
  | _ => true))
theorem sn_noL_ok : sn_noL = true := by decide +kernel
theorem sn_pop : ∀ {n : Nat} {acc st as rr : List Value}, am_pop n acc st = some (as, rr) → ∃ fr : List Value, fr.length = n ∧ as = fr.reverse ++ acc ∧ st = fr ++ rr := by
  intro n
  induction n with
  | zero => intro acc st as rr h; cases h; exact ⟨[], rfl, rfl, rfl⟩
  | succ n ih =>
    intro acc st as rr h
    cases st with
    | nil => cases h
    | cons v st =>
      obtain ⟨fr, h1, h2, h3⟩ := ih (acc := v :: acc) h
      exact ⟨v :: fr, by simp [h1], by simp [h2], by simp [h3]⟩
theorem sn_c1 {v : Value} (h : am_c1 v = true) : v.category = 1 := by
  unfold am_c1 at h
  split at h <;> first | rfl | cases h
theorem sn_sl : ∀ {as : List Value}, as.all am_c1 = true → lg_sl as = as.map Slot.val := by
  intro as
  induction as with
  | nil => intro _; rfl
  | cons v as ih =>
    intro h
    rw [List.all_cons, Bool.and_eq_true] at h
    have hc := sn_c1 h.1
    have := ih h.2
    simp only [lg_sl, List.flatMap_cons, List.map_cons] at this ⊢
    rw [if_neg (by omega), this]
    rfl
theorem sn_args : ∀ {as : List Value} {k i : Nat} {v : Value}, as.all am_c1 = true → as[i]? = some v → (k + i, v) ∈ lv_args k as := by
  intro as
  induction as with
  | nil => intro k i v _ h; cases h
  | cons q as ih =>
    intro k i v h hi
    rw [List.all_cons, Bool.and_eq_true] at h
    have hc := sn_c1 h.1
    unfold lv_args
    rw [if_neg (by omega)]
    cases i with
    | zero => cases hi; exact List.mem_cons_self
    | succ i =>
      have := ih (k := k + 1) (i := i) h.2 hi
      rw [show k + 1 + i = k + (i + 1) by omega] at this
      exact List.mem_cons_of_mem _ this
theorem sn_entry {as : List Value} {n : Nat} (h : as.all am_c1 = true) (hn : as.length ≤ n) : sn_L ((lg_sl as ++ List.replicate (n - (lg_sl as).length) Slot.unset).toArray) (am_ini as n) := by
  have hlen : (lg_sl as).length = as.length := by rw [sn_sl h, List.length_map]
  have hl := lv_entry as (n := n) (by omega)
  have hil : (am_ini as n).length = n := by
    unfold am_ini
    rw [List.length_append, List.length_map, List.length_replicate]
    omega
  refine ⟨by rw [hl.1, hil], hl.2.1, fun i v hi => ?_⟩
  have hi' : as[i]? = some v := by
    unfold am_ini at hi
    by_cases hlt : i < as.length
    · rw [List.getElem?_append_left (by rw [List.length_map]; exact hlt), List.getElem?_map] at hi
      cases hq : as[i]? with
      | none => rw [hq] at hi; cases hi
      | some q => rw [hq] at hi; cases hi; rfl
    · rw [List.getElem?_append_right (by rw [List.length_map]; omega)] at hi
      have := List.eq_of_mem_replicate (List.mem_of_getElem? hi)
      cases this
  have hm := sn_args (k := 0) h hi'
  rw [Nat.zero_add] at hm
  refine ⟨hl.2.2 (i, v) hm, ?_⟩
  exact sn_c1 (List.all_eq_true.mp h v (List.mem_of_getElem? hi'))
section Main
variable {l : Launch} {D : va_G} {cyI cyO : ClassId} {H0 : Heap} {b L : Nat} {xs : Nat → Int32} {P : Nat × Nat}
theorem sn_run_le : ∀ {f mi pc : Nat} {ls : am_L} {st : List Value} {h h' : am_H} {r : Option Value}, am_run P f mi pc ls st h = some (r, h') → h.1 ≤ h'.1 ∧ h.2.1 ≤ h'.2.1 := by
  intro f
  induction f with
  | zero => intro mi pc ls st h h' r hr; cases hr
  | succ f ih =>
    intro mi pc ls st h h' r hr
    unfold am_run am_step at hr
    split at hr
    · cases hr
    · rename_i i n x hp
      split at hr
      · cases hr
      · rename_i q hq
        cases hr
        have hq2 : am_act P p_ty p_df (p_rt mi) pc i x ls st h = some (.inl (r, h')) := hq
        cases hM : p_ms[mi]? with
        | none =>
          exfalso
          unfold p_at at hp
          split at hp
          · rename_i t ht
            have h1 : mi < p_tbs.length := (List.getElem?_eq_some_iff.mp ht).1
            have h2 : p_ms.length ≤ mi := List.getElem?_eq_none_iff.mp hM
            have h3 : p_tbs.length = p_ms.length := rfl
            omega
          · cases hp
        | some M =>
          obtain ⟨h1, h2, h3⟩ := sn_rows hM hp
          obtain ⟨e1, -, -⟩ := sn_act_ret (sn_ms hM).2.2 h1 h2 h3 hq2
          rw [e1]
          exact ⟨Nat.le_refl _, Nat.le_refl _⟩
      · rename_i pc' ls' st' h1 hq
        have a1 := sn_act_le hq
        have a2 := ih hr
        omega
      · rename_i cy as rr hq
        split at hr
        · cases hr
        · rename_i v h1 hc
          have a1 := ih hc
          have a2 := ih hr
          omega
/-- the statement, at a fuel -/
def sn_at (l : Launch) (D : va_G) (cyI cyO : ClassId) (H0 : Heap) (b L : Nat) (xs : Nat → Int32) (P : Nat × Nat) (f : Nat) : Prop :=
  ∀ (mi pc : Nat) (ls : am_L) (st : List Value) (h h' : am_H) (r : Option Value), am_run P f mi pc ls st h = some (r, h') → ∀ (M : am_M), p_ms[mi]? = some M →
  ∀ (p : Program) (e : Env) (R : Room) (s : State) (m : MethodId) (args : Array Value) (below : List Frame) (meth : Method) (c : Code) (H : Heap) (locs : List Loc) (lsA : Array Slot) (n0 s0 : Nat) (Q : State → Prop),
  p.tables.exec = Jvm.exec → c.code = M.2.1 → c.maxLocals = M.2.2.1 → s.vm.findClass M.1.cls = some m.cls → (∀ w ∈ sn_gw, w.before args s = true) → (M.1.name = "<init>" → meth.name = "<init>") → sn_K D cyI cyO H0 b L xs P s →
  M.2.2.2.2.1 ≤ R.frames → M.2.2.2.2.2 ≤ R.locals → sn_H D cyI cyO H0 b L xs P h H → sn_L lsA ls → ls.length = M.2.2.1 → (∀ q ∈ locs, H0.size ≤ q.base) → n0 ≤ h.1 → s0 ≤ h.2.1 → h'.1 - n0 ≤ R.cells → h'.2.1 - s0 ≤ R.slots →
  (∀ (H1 : Heap) (locs1 : List Loc) (pc1 : Nat) (ls1 : Array Slot), sn_H D cyI cyO H0 b L xs P h' H1 → (∀ q ∈ locs1, H0.size ≤ q.base) → sn_ret M pc1 r → W p l e R s m args below meth c H1 locs1 (h'.1 - n0) (h'.2.1 - s0) Q (F0 m pc1 ls1 r.toList)) →
  W p l e R s m args below meth c H locs (h.1 - n0) (h.2.1 - s0) Q (F0 m pc lsA st)
theorem sn_met {f mi : Nat} {M : am_M} {as : List Value} {h h' : am_H} {r : Option Value} (IH : sn_at l D cyI cyO H0 b L xs P f) (hrun : am_run P f mi 0 (am_ini as (p_ml mi)) [] h = some (r, h')) (hM : p_ms[mi]? = some M) (has : as.all am_c1 = true) (hal : as.length ≤ M.2.2.1) :
    Met l M.1 (Jvm.Cond.code M.1 M.2.1 M.2.2.1 M.2.2.2.1 :: sn_gw) { frames := M.2.2.2.2.1, cells := h'.1 - h.1, slots := h'.2.1 - h.2.1, locals := M.2.2.2.2.2 } (va_Pc as (fun U => sn_H D cyI cyO H0 b L xs P h U.heap ∧ sn_K D cyI cyO H0 b L xs P U)) (fun _ _ o t => o = .returned r ∧ sn_H D cyI cyO H0 b L xs P h' t.heap) (h'.1 - h.1) (h'.2.1 - h.2.1) (fun q => H0.size ≤ q) := by
  obtain ⟨hpl, hml9, hrt9⟩ := sn_ms hM
  refine va_MetF (cc := M.2.1) (maxL := M.2.2.1) (ret := M.2.2.2.1) hpl rfl ?_
  intro p e s m args below meth c s₁ B hml hv
  obtain ⟨rfl, hH, hK⟩ := hv
  have hx := B.exec
  have hb := B.bytes
  have hr := B.returns
  have hts := atoms_spec (ws := Jvm.Cond.code M.1 M.2.1 M.2.2.1 M.2.2.2.1 :: sn_gw) B.pre
  have hown : s.vm.findClass M.1.cls = some m.cls := findClass_of_methodNamed B.named
  have hlocks := B.notSynchronized
  have hin : meth.name = M.1.name := (name_of_methodNamed B.named B.method).1
  rw [lg_entry_eq]
  rw [hml9] at hrun
  have key := IH mi 0 _ _ h h' r hrun M hM p e (headSpec (Jvm.Cond.code M.1 M.2.1 M.2.2.1 M.2.2.2.1 :: sn_gw) { frames := M.2.2.2.2.1, cells := h'.1 - h.1, slots := h'.2.1 - h.2.1, locals := M.2.2.2.2.2 }).room s m as.toArray below meth c s.heap [] _ h.1 h.2.1 (MQ below (fun _ _ o t => o = .returned r ∧ sn_H D cyI cyO H0 b L xs P h' t.heap) as.toArray s (h'.1 - h.1) (h'.2.1 - h.2.1) (fun q => H0.size ≤ q)) hx hb hml hown (fun w hw => hts w (List.mem_cons_of_mem _ hw)) (fun h9 => hin.trans h9) hK (Nat.le_refl _) (Nat.le_refl _) hH (sn_entry has hal) (by
      unfold am_ini
      rw [List.length_append, List.length_map, List.length_replicate]
      omega) (fun q hq => by cases hq) (Nat.le_refl _) (Nat.le_refl _) (Nat.le_refl _) (Nat.le_refl _) (fun H1 locs1 pc1 ls1 g1 g2 g3 => ?_)
  · rw [Nat.sub_self, Nat.sub_self] at key
    exact key
  · rcases g3 with ⟨rfl, d1, d2⟩ | ⟨v, rfl, d1, d2⟩ | ⟨v, rfl, d1, d2⟩ | ⟨v, rt, rfl, d1, d2, d3, d4⟩
    · exact W.vret hx hb (hr.trans d2) (fun t ht hW => ⟨rfl, by rw [ht]; exact g1⟩) g2 d1
    · unfold am_okr at d2
      split at d2
      · rename_i e1
        exact W.iret hx hb (hr.trans e1) (fun t ht hW => ⟨rfl, by rw [ht]; exact g1⟩) g2 d1
      · rename_i e1
        simp only [Bool.or_eq_true, beq_iff_eq] at d2
        exact W.zret hx hb (hr.trans e1) (by rcases d2 with rfl | rfl <;> decide +kernel) (fun t ht hW => ⟨rfl, by rw [ht]; exact g1⟩) g2 d1
      · cases d2
    · exact W.lret hx hb (hr.trans d2) (fun t ht hW => ⟨rfl, by rw [ht]; exact g1⟩) g2 d1
    · exact W.aret hx hb (hr.trans d2) d3 d4 (fun t ht hW => ⟨rfl, by rw [ht]; exact g1⟩) g2 d1
variable {p : Program} {e : Env} {R : Room} {s : State} {m : MethodId} {args : Array Value} {below : List Frame} {meth : Method} {c : Code} {H : Heap} {locs : List Loc} {lsA : Array Slot} {n0 s0 : Nat} {Q : State → Prop}
theorem sn_w_run {cells slots mc ms pc : Nat} {st0 rest : List Value} {r : Option Value} {h' : am_H} (hr : va_Run p l e R s m args below meth c H locs cells slots mc ms (F0 m pc lsA st0) rest (fun _ o t => o = .returned r ∧ sn_H D cyI cyO H0 b L xs P h' t.heap) (fun q => H0.size ≤ q)) (hl : ∀ q ∈ locs, H0.size ≤ q.base)
    (kk : ∀ (H1 : Heap) (locs1 : List Loc), sn_H D cyI cyO H0 b L xs P h' H1 → (∀ q ∈ locs1, H0.size ≤ q.base) → W p l e R s m args below meth c H1 locs1 (cells + mc) (slots + ms) Q (F0 m (pc + 3) lsA (r.toList ++ rest))) : W p l e R s m args below meth c H locs cells slots Q (F0 m pc lsA st0) := by
  intro T hT X
  obtain ⟨v, st₀, t, T', L9, h0, X', hL, e1, e2, ⟨hv, hb⟩, st⟩ := hr T hT X
  cases hv
  obtain ⟨t2, a1, b1⟩ := kk T'.heap (locs ++ L9) (by rw [e1]; exact hb) (fun q hq => by
    rcases List.mem_append.mp hq with h9 | h9
    · exact hl q h9
    · exact hL q h9) T' rfl X'
  exact ⟨t2, st t2 a1, b1⟩
theorem sn_blind {as : List Value} {h : am_H} : FrameBlind (va_Pc as (fun U => sn_H D cyI cyO H0 b L xs P h U.heap ∧ sn_K D cyI cyO H0 b L xs P U)) := fun a U g mk q => by
  obtain ⟨q0, q1, q2⟩ := q
  exact ⟨q0, q1, sn_K.moved (U := U.calling g mk a) (State.WarmedH.refl U) q2⟩
theorem sn_good {M : am_M} {mi : Nat} (hM : p_ms[mi]? = some M) (h : mi < 130) : GoodIn sn_gw (Jvm.Cond.code M.1 M.2.1 M.2.2.1 M.2.2.2.1 :: sn_gw) := by
  have hg : ∀ w ∈ sn_gw, w ∈ sn_gw ∧ ((w.onTables && w.keeps) = true ∨ ∃ ty, w = .arrayClass ty) := fun w hw => ⟨hw, good_of_word (List.mem_filter.mp hw).2⟩
  intro w hw
  rcases List.mem_cons.mp hw with h1 | h1
  · rw [h1]; exact hg _ (sn_codes hM h)
  · exact hg w h1
theorem sn_call {mi f n : Nat} {M : am_M} {pc cy : Nat} {i : Instr} {x : am_X} {ls : am_L} {st as rr : List Value} {h h1 : am_H} {v : Option Value} (IH : sn_at l D cyI cyO H0 b L xs P f) (hp : p_at mi pc = some (i, n, x)) (hM : p_ms[mi]? = some M) (ha : am_act P p_ty p_df (p_rt mi) pc i x ls st h = some (.inr (.inr (cy, as, rr)))) (hrun : am_run P f cy 0 (am_ini as (p_ml cy)) [] h = some (v, h1))
    (hx : p.tables.exec = Jvm.exec) (hb : c.code = M.2.1) (hml : c.maxLocals = M.2.2.1) (hown : s.vm.findClass M.1.cls = some m.cls) (hts : ∀ w ∈ sn_gw, w.before args s = true) (hK : sn_K D cyI cyO H0 b L xs P s)
    (hfr : M.2.2.2.2.1 ≤ R.frames) (hlo : M.2.2.2.2.2 ≤ R.locals) (hH : sn_H D cyI cyO H0 b L xs P h H) (hL : sn_L lsA ls) (hll : ls.length = M.2.2.1) (hl : ∀ q ∈ locs, H0.size ≤ q.base) (hn0 : n0 ≤ h.1) (hs0 : s0 ≤ h.2.1) (hRc : h1.1 - n0 ≤ R.cells) (hRs : h1.2.1 - s0 ≤ R.slots)
    (kk : ∀ (H1 : Heap) (locs1 : List Loc), sn_H D cyI cyO H0 b L xs P h1 H1 → (∀ q ∈ locs1, H0.size ≤ q.base) → W p l e R s m args below meth c H1 locs1 (h1.1 - n0) (h1.2.1 - s0) Q (F0 m (pc + 3) lsA (v.toList ++ rr))) : W p l e R s m args below meth c H locs (h.1 - n0) (h.2.1 - s0) Q (F0 m pc lsA st) := by
  obtain ⟨hdec, hlen, hck⟩ := sn_rows hM hp
  obtain ⟨hle1, hle2⟩ := sn_run_le hrun
  have hsz : lsA.size = M.2.2.1 := by rw [hL.1, hll]
  have kk' : ∀ (H1 : Heap) (locs1 : List Loc), sn_H D cyI cyO H0 b L xs P h1 H1 → (∀ q ∈ locs1, H0.size ≤ q.base) → W p l e R s m args below meth c H1 locs1 (h.1 - n0 + (h1.1 - h.1)) (h.2.1 - s0 + (h1.2.1 - h.2.1)) Q (F0 m (pc + 3) lsA (v.toList ++ rr)) := by
    intro H1 locs1 g1 g2
    rw [show h.1 - n0 + (h1.1 - h.1) = h1.1 - n0 by omega, show h.2.1 - s0 + (h1.2.1 - h.2.1) = h1.2.1 - s0 by omega]
    exact kk H1 locs1 g1 g2
  have hcyL : cy < 130 := by
    obtain ⟨e1, -, hcs⟩ := sn_act_call ha
    subst e1
    unfold p_at at hp
    split at hp
    · rename_i t ht
      have h2 := List.all_eq_true.mp sn_noL_ok t (List.mem_of_getElem? ht)
      have hm : (pc, i, n, x) ∈ t := by
        clear h2 ht
        induction t with
        | nil => cases hp
        | cons q t ih =>
          obtain ⟨q1, q2⟩ := q
          rw [List.lookup_cons] at hp
          split at hp
          · rename_i hq
            cases hp
            rw [eq_of_beq hq]
            exact List.mem_cons_self
          · exact List.mem_cons_of_mem _ (ih hp)
      have h3 := List.all_eq_true.mp h2 _ hm
      rcases hcs with ⟨idx, rfl, -⟩ | ⟨idx, a, as', rfl, -⟩ | ⟨idx, a, as', ci, z, rfl, -⟩
      · exact Nat.le_of_ble_eq_true h3
      · exact Nat.le_of_ble_eq_true h3
      · exact Nat.le_of_ble_eq_true h3
    · cases hp
  obtain ⟨e1, hrr, hcs⟩ := sn_act_call ha
  subst e1
  have hwd := sn_words hrr
  have hfc : h.1 - n0 + (h1.1 - h.1) ≤ R.cells ∧ h.2.1 - s0 + (h1.2.1 - h.2.1) ≤ R.slots := by omega
  have FX : CallFix p m c M.2.1 M.2.2.1 s args sn_gw M.1.cls := ⟨hx, hb, hml, hown, hts⟩
  have hpre : ∀ U : State, U.heap = H → s.WarmedH U.vm → va_Pc as (fun U => sn_H D cyI cyO H0 b L xs P h U.heap ∧ sn_K D cyI cyO H0 b L xs P U) as.toArray U := fun U hU hW => ⟨rfl, by rw [hU]; exact hH, sn_K.moved hW hK⟩
  rcases hcs with ⟨idx, rfl, hk, hpop, has⟩ | ⟨idx, a, as', rfl, hk, rfl, hpop, has⟩ | ⟨idx, a, as', ci, z, rfl, hk, rfl, hpop, has, hci, hz⟩
  · obtain rfl : n = 3 := of_decide_eq_true hlen
    obtain ⟨fr, f1, f2, f3⟩ := sn_pop hpop
    rw [List.append_nil] at f2
    subst f2
    simp only [sn_ck, if_neg hk, sn_ckS] at hck
    split at hck
    · cases hck
    · rename_i N hN
      simp only [Bool.and_eq_true, decide_eq_true_eq, sn_ckC, sn_notMH] at hck
      obtain ⟨⟨c1, c2, c3, c4, ⟨c5, c6⟩, c7⟩, c8, c9⟩ := hck
      have hmet := sn_met IH hrun hN has (by rw [List.length_reverse, f1]; exact c4)
      have hG := sn_good hN hcyL
      split at c9
      · refine sn_w_run (va_runS (As := fr.reverse) (rest := rr) FX hmet ⟨callB_of (rm := { frames := N.2.2.2.2.1, cells := h1.1 - h.1, slots := h1.2.1 - h.2.1, locals := N.2.2.2.2.2 }) x.2.1 hts hG rfl rfl rfl (hts _ (sn_mem_in c7)) (hts _ (sn_mem_in c9)) ⟨c5, c6, c3⟩ ⟨by show N.2.2.2.2.1 + 1 ≤ _; omega, by show 8 + (N.2.2.1 + 11) + N.2.2.2.2.2 ≤ _; omega⟩, hts _ (sn_mem_in c8)⟩ ⟨sn_blind, hpre⟩ rfl (by rw [List.length_reverse, f1]) hsz (by rw [List.reverse_reverse]; exact f3) (lv_room hwd) hdec hfc) hl kk'
      · split at c9
        · rename_i o9 i9 z9 ho9 hw9
          simp only [Bool.and_eq_true, decide_eq_true_eq] at c9
          obtain ⟨rfl, rfl, rfl⟩ := c9
          have hNw := hK.2.2.2.2.2.2.2.2.2 _ (List.mem_of_getElem? hw9) rfl
          refine sn_w_run (va_runSN (As := fr.reverse) (rest := rr) FX hmet ⟨va_cnB (rm := { frames := N.2.2.2.2.1, cells := h1.1 - h.1, slots := h1.2.1 - h.2.1, locals := N.2.2.2.2.2 }) x.2.1 hts hG rfl rfl rfl hNw (hts _ (sn_mem_in c7)) ⟨c5, c6, c3⟩ ⟨by show N.2.2.2.2.1 + 1 ≤ _; omega, by show 8 + (N.2.2.1 + 11) + N.2.2.2.2.2 ≤ _; omega⟩, hts _ (sn_mem_in c8), trivial⟩ ⟨sn_blind, hpre⟩ rfl (by rw [List.length_reverse, f1]) hsz (by rw [List.reverse_reverse]; exact f3) (lv_room hwd) hdec hfc) hl kk'
        · cases c9
  · obtain rfl : n = 3 := of_decide_eq_true hlen
    obtain ⟨fr, f1, f2, f3⟩ := sn_pop hpop
    rw [List.append_nil] at f2
    subst f2
    have has2 : (Value.ref a :: fr.reverse).all am_c1 = true := by rw [List.all_cons, has]; rfl
    simp only [sn_ck, if_neg hk, sn_ckI] at hck
    split at hck
    · cases hck
    · rename_i N hN
      simp only [Bool.and_eq_true, decide_eq_true_eq, sn_ckC, sn_notMH] at hck
      obtain ⟨⟨c1, c2, c3, c4, ⟨c5, c6⟩, c7⟩, c8, cn, cr, c9⟩ := hck
      have hmet := sn_met IH hrun hN has2 (by rw [List.length_cons, List.length_reverse, f1]; exact c4)
      have hG := sn_good hN hcyL
      obtain ⟨yN, byN, mlN, rtN, frN, loN⟩ := N
      simp only at cr
      subst cr
      split at c9
      · refine sn_w_run (va_runI (As := fr.reverse) (rest := rr) FX hmet ⟨callB_of (rm := { frames := frN, cells := h1.1 - h.1, slots := h1.2.1 - h.2.1, locals := loN }) x.2.1 hts hG rfl rfl rfl (hts _ (sn_mem_in c7)) (hts _ (sn_mem_in c9)) ⟨c5, c6, c3⟩ ⟨by show frN + 1 ≤ _; simp only at c1; omega, by show 8 + (mlN + 11) + loN ≤ _; simp only at c2; omega⟩, cn, hts _ (sn_mem_in c8)⟩ ⟨sn_blind, hpre⟩ rfl (by rw [List.length_reverse, f1]) hsz (by rw [List.reverse_reverse]; exact f3) (lv_room hwd) hdec hfc) hl kk'
      · split at c9
        · rename_i o9 i9 z9 ho9 hw9
          simp only [Bool.and_eq_true, decide_eq_true_eq] at c9
          obtain ⟨rfl, rfl, rfl⟩ := c9
          have hNw := hK.2.2.2.2.2.2.2.2.2 _ (List.mem_of_getElem? hw9) rfl
          refine sn_w_run (va_runIN (As := fr.reverse) (rest := rr) FX hmet ⟨va_cnB (rm := { frames := frN, cells := h1.1 - h.1, slots := h1.2.1 - h.2.1, locals := loN }) x.2.1 hts hG rfl rfl rfl hNw (hts _ (sn_mem_in c7)) ⟨c5, c6, c3⟩ ⟨by show frN + 1 ≤ _; simp only at c1; omega, by show 8 + (mlN + 11) + loN ≤ _; simp only at c2; omega⟩, cn, hts _ (sn_mem_in c8)⟩ ⟨sn_blind, hpre⟩ rfl (by rw [List.length_reverse, f1]) hsz (by rw [List.reverse_reverse]; exact f3) (lv_room hwd) hdec hfc) hl kk'
        · cases c9
  · obtain rfl : n = 3 := of_decide_eq_true hlen
    obtain ⟨fr, f1, f2, f3⟩ := sn_pop hpop
    rw [List.append_nil] at f2
    subst f2
    have has2 : (Value.ref a :: fr.reverse).all am_c1 = true := by rw [List.all_cons, has]; rfl
    simp only [sn_ck, if_neg hk, sn_ckV] at hck
    split at hck
    · cases hck
    · rename_i N hN
      simp only [Bool.and_eq_true, decide_eq_true_eq, sn_ckC, sn_notMH] at hck
      obtain ⟨⟨c1, c2, c3, c4, ⟨c5, c6⟩, c7⟩, c8, c9⟩ := hck
      have hmet := sn_met IH hrun hN has2 (by rw [List.length_cons, List.length_reverse, f1]; exact c4)
      have hG := sn_good hN hcyL
      obtain ⟨⟨C, T, N9⟩, hcl⟩ : ∃ r, p_cl[ci]? = some r := by
        unfold am_cls at hci
        split at hci
        · rename_i ci' fs hcell
          cases hci
          obtain ⟨-, r, hr, -⟩ := hH.at hcell
          exact ⟨r, hr⟩
        · cases hci
      split at c9
      · rw [Bool.and_eq_true] at c9
        have hsel := sn_all_at (p := fun r _ => decide (r.1 = N.1.cls) && sn_mem (.selects r.1 N.1 N.1)) c9.2 hz hcl
        simp only [Bool.and_eq_true, decide_eq_true_eq] at hsel
        refine sn_w_run (va_runV (C := C) (As := fr.reverse) (rest := rr) FX hmet ⟨callB_of (rm := { frames := N.2.2.2.2.1, cells := h1.1 - h.1, slots := h1.2.1 - h.2.1, locals := N.2.2.2.2.2 }) x.2.1 hts hG rfl rfl rfl (hts _ (sn_mem_in c7)) (hts _ (sn_mem_in c9.1)) ⟨c5, c6, c3⟩ ⟨by show N.2.2.2.2.1 + 1 ≤ _; omega, by show 8 + (N.2.2.1 + 11) + N.2.2.2.2.2 ≤ _; omega⟩, hts _ (sn_mem_in c8), hts _ (sn_mem_in hsel.2)⟩ ⟨sn_blind, sn_recv hK hH hcl hci, hpre⟩ rfl (by rw [List.length_reverse, f1]) hsz (by rw [List.reverse_reverse]; exact f3) (lv_room hwd) hdec hfc) hl kk'
      · split at c9
        · rename_i o9 i9 z9 hw9
          simp only [Bool.and_eq_true, decide_eq_true_eq] at c9
          obtain ⟨rfl, rfl, d1, d2, d3, d4⟩ := c9
          have hsel := sn_all_at (p := fun r _ => sn_mem (.selects r.1 z9 N.1)) d4 hz hcl
          have hdesc : z9.desc = N.1.desc := by rw [d2]
          refine sn_w_run (va_runU (C := C) (owner := N.1.cls) (x := z9) (As := fr.reverse) (rest := rr) FX hmet (va_cwU (rm := { frames := N.2.2.2.2.1, cells := h1.1 - h.1, slots := h1.2.1 - h.2.1, locals := N.2.2.2.2.2 }) x.2.1 hts (fun w hw => ?_) rfl rfl rfl d2 ⟨c5, c6, by rw [hdesc]; exact c3⟩ ⟨by show N.2.2.2.2.1 + 1 ≤ _; omega, by show 8 + (N.2.2.1 + 11) + N.2.2.2.2.2 ≤ _; omega⟩) ⟨sn_blind, sn_recv hK hH hcl hci, hpre⟩ rfl (by rw [List.length_reverse, f1]) hsz (by rw [List.reverse_reverse]; exact f3) (lv_room hwd) hdec hfc) hl kk'
          have hg : ∀ w ∈ sn_gw, w ∈ sn_gw ∧ ((w.onTables && w.keeps) = true ∨ ∃ ty, w = .arrayClass ty) := fun w hw => ⟨hw, good_of_word (List.mem_filter.mp hw).2⟩
          rcases List.mem_append.mp hw with h9 | h9
          · apply hg
            simp only [List.mem_cons, List.not_mem_nil, or_false] at h9
            rcases h9 with rfl | rfl | rfl | rfl | rfl
            · exact sn_in hw9 d1
            · exact sn_mem_in d3
            · exact sn_mem_in hsel
            · exact sn_mem_in c8
            · exact sn_mem_in c7
          · exact hG w h9
        · cases c9
theorem sn_main : ∀ f, sn_at l D cyI cyO H0 b L xs P f := by
  intro f
  induction f with
  | zero => intro mi pc ls st h h' r hr; cases hr
  | succ f IH =>
    intro mi pc ls st h h' r hr M hM p e R s m args below meth c H locs lsA n0 s0 Q hx hb hml hown hts hnm hK hfr hlo hH hL hll hl hn0 hs0 hRc hRs hq
    unfold am_run am_step at hr
    split at hr
    · cases hr
    · rename_i i n x hp
      obtain ⟨hdec, hlen, hck⟩ := sn_rows hM hp
      split at hr
      · cases hr
      · rename_i q hqa
        cases hr
        obtain ⟨e1, e2, e3⟩ := sn_act_ret (r := r) (h' := h') (sn_ms hM).2.2 hdec hlen hck hqa
        subst e1; subst e2
        exact hq H locs pc lsA hH hl e3
      · rename_i pc' ls' st' h1 hqa
        obtain ⟨a1, a2⟩ := sn_act_le hqa
        obtain ⟨b1, b2⟩ := sn_run_le hr
        refine sn_go hdec hlen hck hqa hx hb hml hown hts hnm hK hfr hlo hH hL hll hl hn0 hs0 (by omega) (by omega) (fun H1 locs1 ls1 g1 g2 g3 g4 => ?_)
        exact IH mi pc' ls' st' h1 h' r hr M hM p e R s m args below meth c H1 locs1 ls1 n0 s0 Q hx hb hml hown hts hnm hK hfr hlo g1 g2 g4 g3 (by omega) (by omega) hRc hRs hq
      · rename_i cy as rr hqa
        split at hr
        · cases hr
        · rename_i v h1 hc
          obtain ⟨a1, a2⟩ := sn_run_le hc
          obtain ⟨b1, b2⟩ := sn_run_le hr
          refine sn_call IH hp hM hqa hc hx hb hml hown hts hK hfr hlo hH hL hll hl hn0 hs0 (by omega) (by omega) (fun H1 locs1 g1 g2 => ?_)
          exact IH mi (pc + 3) ls _ h1 h' r hr M hM p e R s m args below meth c H1 locs1 lsA n0 s0 Q hx hb hml hown hts hnm hK hfr hlo g1 hL hll g2 (by omega) (by omega) hRc hRs hq
end Main
end
section
/-! THE CLAIM OUT OF ONE WALK OF THE LAW'S BODY. Your part is whole_start (and what it stands on); all else here is the same for every law, but numbers. -/
def R_law : String := "TwoStepOutputsLaw"
def lw_P (b : Addr) (xs : List Int32) (args : Array Value) (s : State) : Prop := args = #[.ref b] ∧ s.IntsAt b xs ∧ xs.length ≤ 256 ∧ (Jvm.Cond.and given_1 narrow_1).before args s = true
def lw_Q (_ : Array Value) (s : State) (o : Outcome) (t : State) : Prop := o = .returned (some (.int 1)) ∧ Framed s o t [] 600000 7302250
def lw_Z (below : List Frame) (a : Array Value) (s : State) : State → Prop := fun t => ∃ o, t.status = .running ∧ Ended t below o ∧ lw_Q a s o t
/-- the law's own end, with 1 on the stack, nothing written that was there before, its room as the claim has it -/
theorem lw_ret {p : Program} {l : Launch} {e : Env} {s : State} {m : MethodId} {below : List Frame} {meth : Method} {c : Code} {b : Nat} (hx : p.tables.exec = Jvm.exec) (hb : c.code = code) (hr : meth.sig.returnType = ret) (hlocks : meth.locks = false) {pc : Nat} {H : Heap} {ls : Array Slot} (hdg : decode code pc = .ok (.ireturn, 1)) : W p l e room_1 s m #[Value.ref b] below meth c H [] 600000 7302250 (lw_Z below #[Value.ref b] s) (F0 m pc ls [.int 1]) := by
  intro T hT X
  obtain ⟨fs, hret, hrun, hended, hW, hframe⟩ := X.leave (v := some (.int 1)) (hlocks := hlocks) (fun h => by rw [hr] at h; cases h)
  have hmeth' : T.vm.method? m = some meth := X.method'
  refine ⟨T.setFrames fs, ?_, .returned (some (.int 1)), hrun, hended, rfl, ⟨_, rfl⟩, hW, hframe⟩
  jvm_step X.here [X.here.top, hx, hb, hdg, hmeth', hr, ret, narrow_b1]
  (try refine ⟨rfl, ?_⟩); (try refine ⟨rfl, ?_⟩)
  first | (intro acts; rw [hret _ acts rfl rfl rfl]) | rw [hret _ _ rfl rfl rfl]
  exact Steps.refl _
/-- what holds at the law's entry: the machine, the code, the tables' words (any of lw_tbl by 'hts w (by decide +kernel)'), the script of L ints xs at the cell b, what the Statement gives of the start (any of its parts by flat_of_before) -/
def lw_At (p : Program) (s : State) (m : MethodId) (meth : Method) (c : Code) (b L : Nat) (xs : Nat → Int32) : Prop :=
  p.tables.exec = Jvm.exec ∧ c.code = code ∧ meth.sig.returnType = ret ∧ c.maxLocals = 4 ∧ s.vm.findClass R_law = some m.cls ∧ (∀ w ∈ lw_tbl, w.before #[Value.ref b] s = true) ∧ va_X b L xs s s.heap ∧ b < s.heap.size ∧ meth.locks = false ∧ (Jvm.Cond.and given_1 narrow_1).before #[Value.ref b] s = true
/-- the abstract heap at the law's start: the script, ArrayList's empty array -/
def sn_h0 (n b L : Nat) (xs : Nat → Int32) (P : Nat × Nat) : am_H := (n, 0, va_up (va_up (fun _ => ac_N) P.1 ac_E) b (ac_S L xs))
theorem sn_kinds {s : State} {cell : Cell} (h1 : s.isArrayOf cell .int) (h2 : s.isArrayOf cell (.object "java/lang/Object")) : False := by
  obtain ⟨-, k0, hk0, cm0, hkk0⟩ := h1
  obtain ⟨-, k1, hk1, cm1, hkk1⟩ := h2
  cases hk0.symm.trans hk1
  have := hkk0.symm.trans hkk1
  cases this
set_option maxHeartbeats 4000000 in
theorem sn_start {p : Program} {e : Env} {s : State} {m : MethodId} {below : List Frame} {meth : Method} {c : Code} (l : Launch) {b L : Nat} {xs : Nat → Int32} (C0 : lw_At p s m meth c b L xs)
    (hE : ∀ (P : Nat × Nat) (n : Nat), b < n → P.1 < n → b ≠ P.1 → ∃ h' : am_H, am_E P 130 0 [some (.ref b), none, none, none] [] (sn_h0 n b L xs P) = some (some (.int 1), h') ∧ h'.1 ≤ n + 600000 ∧ h'.2.1 ≤ 7302250) :
    W p l e room_1 s m #[Value.ref b] below meth c s.heap [] 0 0 (lw_Z below #[Value.ref b] s) (entryFrame m ([Value.ref b] : List Value).toArray 4) := by
  obtain ⟨hx, hb, hr, hml, hown, hts, hX, hbl, hlocks, hgv⟩ := id C0
  have hts' : ∀ w ∈ sn_gw, w.before #[Value.ref b] s = true := fun w hw => hts w (List.mem_filter.mp hw).1
  have hs := flat_of_before _ hgv
  obtain ⟨c0, i0, k0⟩ := u_known (C := pR0) (T := pT0) (N := 3) (n := 3) hts (fun w hw => (List.mem_filter.mp (sn_uok_in sn_u0 w hw)).1) (hts (.instantiable pR0 3) (by decide +kernel))
  obtain ⟨c1, i1, k1⟩ := u_known (C := pR1) (T := pT1) (N := 3) (n := 3) hts (fun w hw => (List.mem_filter.mp (sn_uok_in sn_u1 w hw)).1) (hts (.instantiable pR1 3) (by decide +kernel))
  obtain ⟨c2, i2, k2⟩ := u_known (C := pR2) (T := pT2) (N := 3) (n := 3) hts (fun w hw => (List.mem_filter.mp (sn_uok_in sn_u2 w hw)).1) (hts (.instantiable pR2 3) (by decide +kernel))
  obtain ⟨c3, i3, k3⟩ := u_known (C := pR3) (T := pT3) (N := 3) (n := 3) hts (fun w hw => (List.mem_filter.mp (sn_uok_in sn_u3 w hw)).1) (hts (.instantiable pR3 3) (by decide +kernel))
  obtain ⟨c4, i4, k4⟩ := u_known (C := pR4) (T := pT4) (N := 10) (n := 10) hts (fun w hw => (List.mem_filter.mp (sn_uok_in sn_u4 w hw)).1) (hts (.instantiable pR4 10) (by decide +kernel))
  obtain ⟨c5, i5, k5⟩ := u_known (C := pR5) (T := pT5) (N := 7) (n := 7) hts (fun w hw => (List.mem_filter.mp (sn_uok_in sn_u5 w hw)).1) (hts (.instantiable pR5 7) (by decide +kernel))
  obtain ⟨c6, i6, k6⟩ := u_known (C := pR6) (T := pT6) (N := 3) (n := 3) hts (fun w hw => (List.mem_filter.mp (sn_uok_in sn_u6 w hw)).1) (hts (.instantiable pR6 3) (by decide +kernel))
  obtain ⟨c7, i7, k7⟩ := u_known (C := pR7) (T := pT7) (N := 4) (n := 4) hts (fun w hw => (List.mem_filter.mp (sn_uok_in sn_u7 w hw)).1) (hts (.instantiable pR7 4) (by decide +kernel))
  obtain ⟨c8, i8, k8⟩ := u_known (C := pR8) (T := pT8) (N := 9) (n := 9) hts (fun w hw => (List.mem_filter.mp (sn_uok_in sn_u8 w hw)).1) (hts (.instantiable pR8 9) (by decide +kernel))
  obtain ⟨c9, i9, k9⟩ := u_known (C := pR9) (T := pT9) (N := 34) (n := 34) hts (fun w hw => (List.mem_filter.mp (sn_uok_in sn_u9 w hw)).1) (hts (.instantiable pR9 34) (by decide +kernel))
  obtain ⟨D, hKc⟩ : ∃ (D : va_G), ∀ (k : Nat) (q : vw_C), p_cl[k]? = some q → u_Kn s q.1 q.2.1 q.2.2 (D.1 k) (D.2 k) := by
    refine ⟨(fun k => if k = 0 then c0 else if k = 1 then c1 else if k = 2 then c2 else if k = 3 then c3 else if k = 4 then c4 else if k = 5 then c5 else if k = 6 then c6 else if k = 7 then c7 else if k = 8 then c8 else c9, fun k => if k = 0 then i0 else if k = 1 then i1 else if k = 2 then i2 else if k = 3 then i3 else if k = 4 then i4 else if k = 5 then i5 else if k = 6 then i6 else if k = 7 then i7 else if k = 8 then i8 else i9), ?_⟩
    intro k q hq
    match k, hq with
    | 0, hq => cases hq; exact k0
    | 1, hq => cases hq; exact k1
    | 2, hq => cases hq; exact k2
    | 3, hq => cases hq; exact k3
    | 4, hq => cases hq; exact k4
    | 5, hq => cases hq; exact k5
    | 6, hq => cases hq; exact k6
    | 7, hq => cases hq; exact k7
    | 8, hq => cases hq; exact k8
    | 9, hq => cases hq; exact k9
    | k + 10, hq => simp [p_cl] at hq
  obtain ⟨cyI, kI, compI, e1, e2, e3⟩ := Cond.arrayClass_spec (hts (.arrayClass .int) (by decide +kernel))
  obtain ⟨comp, cyO, kO, f1, f2, f3, f4, f5⟩ := Cond.arrayOver_spec (hts (.arrayOver (.object "java/lang/Object")) (by decide +kernel))
  have hKK : va_K D p_cl [(cyI, .int), (cyO, .object "java/lang/Object")] s := by
    refine ⟨hKc, fun k q hq => ?_⟩
    match k, hq with
    | 0, hq => cases hq; exact ⟨fun N z => ⟨(fun k h => by cases h), kI, e2, compI, e3⟩, e1⟩
    | 1, hq => cases hq; exact ⟨fun N z => ⟨(fun k h => by cases h), kO, f3, comp, f4⟩, kO, comp, f3, f4, f1, f5⟩
    | k + 2, hq => simp at hq
  have hA : ∀ a : Nat, a < s.heap.size → ¬ (fun q => s.heap.size ≤ q) a := fun a ha h9 => by simp only at h9; omega
  obtain ⟨E0, hE0, hT⟩ := va_Tof (tm := .static "java/util/ArrayList" "DEFAULTCAPACITY_EMPTY_ELEMENTDATA" "[Ljava/lang/Object;") (ty := .object "java/lang/Object") (N := 0) (f := fun _ => .null) (A := fun q => s.heap.size ≤ q) (by decide) (hs (.arrayOf (.static "java/util/ArrayList" "DEFAULTCAPACITY_EMPTY_ELEMENTDATA" "[Ljava/lang/Object;") (.object "java/lang/Object")) (by decide +kernel)) (va_eqt (hs (.eq (.length (.static "java/util/ArrayList" "DEFAULTCAPACITY_EMPTY_ELEMENTDATA" "[Ljava/lang/Object;")) (.int 0)) (by decide +kernel))) (fun j hj => absurd hj (Nat.not_lt_zero _)) hA
  obtain ⟨mi, hMi⟩ := va_Mi.of (hs (.isRef (.mirror "[Ljava/lang/Object;")) (by decide +kernel))
  have hZ := va_Zref (hts (.laysStatic "java/util/ArrayList" "DEFAULTCAPACITY_EMPTY_ELEMENTDATA" "[Ljava/lang/Object;") (by decide +kernel)) (hts (.initialized "java/util/ArrayList") (by decide +kernel)) hE0 hA
  obtain ⟨cellE, t1, t2, t3, t4, t5, t6⟩ := hT
  have hE0l : E0 < s.heap.size := (Array.getElem?_eq_some_iff.mp t1).1
  have hK : sn_K D cyI cyO s.heap b L xs (E0, mi) s := ⟨hKK, hX, hbl, hZ, ⟨cellE, t1, t2, t5⟩, hE0l, hMi, va_AO.of (hts (.arrayOver (.object "java/lang/Object")) (by decide +kernel)), va_Dc.of (hts (.declares sn_gC) (by decide +kernel)), fun w hw hN => by
    have hz := hts w hw
    cases w <;> first | (exact va_Nw.of rfl hz) | (cases hN)⟩
  have hne : b ≠ E0 := by
    rintro rfl
    obtain ⟨scr, g1, g2, -⟩ := hX
    cases g1.symm.trans t1
    exact sn_kinds g2 t2
  obtain ⟨h', hrun, hc1, hc2⟩ := hE (E0, mi) s.heap.size hbl hE0l hne
  obtain ⟨f, hf⟩ := am_E_ex hrun
  have hH : sn_H D cyI cyO s.heap b L xs (E0, mi) (sn_h0 s.heap.size b L xs (E0, mi)) s.heap := by
    refine ⟨rfl, Nat.le_refl _, fun _ _ => rfl, fun a => ?_, fun a n f h9 => ?_⟩
    · by_cases ha : a = b
      · subst ha
        have : (sn_h0 s.heap.size a L xs (E0, mi)).2.2 a = ac_S L xs := by simp [sn_h0, va_up]
        rw [this]
        exact ⟨rfl, rfl, rfl⟩
      · by_cases hb2 : a = E0
        · have : (sn_h0 s.heap.size b L xs (E0, mi)).2.2 a = ac_E := by simp [sn_h0, va_up, ha, hb2]; intro h9; exact absurd (hb2.trans h9) ha
          rw [this]
          exact hb2
        · have : (sn_h0 s.heap.size b L xs (E0, mi)).2.2 a = ac_N := by simp [sn_h0, va_up, ha, hb2]
          rw [this]
          exact trivial
    · exfalso
      simp only [sn_h0, va_up] at h9
      split at h9
      · cases h9
      · split at h9 <;> cases h9
  rw [lg_entry_eq]
  have hlv : sn_L ((lg_sl [.ref b] ++ List.replicate (4 - (lg_sl [.ref b]).length) Slot.unset).toArray) [some (.ref b), none, none, none] := sn_entry (as := [.ref b]) (n := 4) rfl (Nat.le_of_ble_eq_true rfl)
  have key := sn_main (l := l) (D := D) (cyI := cyI) (cyO := cyO) (H0 := s.heap) (b := b) (L := L) (xs := xs) (P := (E0, mi)) f 130 0 _ _ _ h' _ hf _ rfl p e room_1 s m #[Value.ref b] below meth c s.heap [] _ s.heap.size 0 (lw_Z below #[Value.ref b] s) hx hb hml hown hts' (fun h9 => absurd h9 (by decide)) hK (by decide) (by decide) hH hlv rfl (fun q hq => by cases hq) (Nat.le_refl _) (Nat.le_refl _) (by show h'.1 - s.heap.size ≤ 600000; omega) (by show h'.2.1 - 0 ≤ 7302250; omega) (fun H1 locs1 pc1 ls1 g1 g2 g3 => ?_)
  · rw [show (sn_h0 s.heap.size b L xs (E0, mi)).1 - s.heap.size = 0 from Nat.sub_self _, show (sn_h0 s.heap.size b L xs (E0, mi)).2.1 - 0 = 0 from rfl] at key
    exact key
  · refine va_forget (fun q hq => g2 q hq) ?_
    refine W.widen (k := 600000) (n := 7302250) (by omega) (by omega) ?_
    rcases g3 with ⟨h9, -⟩ | ⟨v, h9, d1, -⟩ | ⟨v, h9, -⟩ | ⟨v, rt, h9, -, -, -, d4⟩
    · cases h9
    · cases h9
      exact lw_ret hx hb hr hlocks d1
    · cases h9
    · cases h9
      rcases d4 with d4 | ⟨a, d4⟩ <;> cases d4
end
