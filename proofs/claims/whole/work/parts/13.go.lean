/-! An instruction that goes on: the machine follows. -/
def sn_ret (M : am_M) (pc : Nat) (r : Option Value) : Prop := (r = none ∧ decode M.2.1 pc = .ok (.return_, 1) ∧ M.2.2.2.1 = none) ∨ (∃ v, r = some (.int v) ∧ decode M.2.1 pc = .ok (.ireturn, 1) ∧ am_okr M.2.2.2.1 v = true) ∨ (∃ v, r = some (.long v) ∧ decode M.2.1 pc = .ok (.lreturn, 1) ∧ M.2.2.2.1 = some .long) ∨ (∃ v rt, r = some v ∧ decode M.2.1 pc = .ok (.areturn, 1) ∧ M.2.2.2.1 = some rt ∧ ((∃ n, rt = .object n) ∨ ∃ t, rt = .array t) ∧ (v = .null ∨ ∃ a, v = .ref a))
theorem sn_pf_n {ty : Nat → Nat → FieldType} {h h' : am_H} {a : Nat} {al : List (Nat × Nat)} {v : Value} (hv : am_pf ty h a al v = some h') : h'.1 = h.1 ∧ h'.2.1 = h.2.1 := by
  unfold am_pf at hv
  split at hv
  · split at hv
    · split at hv
      · cases hv; exact ⟨rfl, rfl⟩
      · cases hv
    · cases hv
  · cases hv
theorem sn_iast_n {h h' : am_H} {a : Nat} {i x : Int32} (hv : am_iast h a i x = some h') : h'.1 = h.1 ∧ h'.2.1 = h.2.1 := by
  unfold am_iast at hv
  split at hv
  · rename_i n f hc
    cases hi : am_ix i n with
    | none => rw [hi] at hv; cases hv
    | some j => rw [hi] at hv; cases hv; exact ⟨rfl, rfl⟩
  · cases hv
theorem sn_aast_n {h h' : am_H} {a v : Nat} {i : Int32} (hv : am_aast h a i v = some h') : h'.1 = h.1 ∧ h'.2.1 = h.2.1 := by
  unfold am_aast at hv
  split at hv
  · rename_i n f hc
    split at hv
    · split at hv
      · cases hv
      · cases hi : am_ix i n with
        | none => rw [hi] at hv; cases hv
        | some j => rw [hi] at hv; cases hv; exact ⟨rfl, rfl⟩
    · cases hv
  · cases hv
theorem sn_copy_n {h h' : am_H} {a b : Nat} {n : Int32} (hv : am_copy h a b n = some h') : h'.1 = h.1 ∧ h'.2.1 = h.2.1 := by
  unfold am_copy at hv
  split at hv
  · cases hv
  · split at hv
    · split at hv
      · split at hv
        · cases hv; exact ⟨rfl, rfl⟩
        · cases hv
      · cases hv
    · split at hv
      · split at hv
        · cases hv; exact ⟨rfl, rfl⟩
        · cases hv
      · cases hv
    · cases hv
theorem sn_rf {v : Value} {r : Option Nat} (h : am_rf v = some r) : v = va_rf r := by
  unfold am_rf at h
  split at h <;> cases h <;> rfl
theorem sn_sw {x : Int32} {d : Nat} {offs : Array Int} {al : List (Nat × Nat)} {pc : Nat} {dd : Int} (hd : (pc : Int) + dd = (d : Int)) (hlen : al.length = offs.size) (hsm : offs.size ≤ 1000) (hall : ∀ j, j < offs.size → ∃ o t, offs[j]? = some o ∧ al[j]? = some (j, t) ∧ (pc : Int) + o = (t : Int)) :
    ((x.toInt < 0 ∨ (offs.size : Int) ≤ x.toInt) ∧ am_sw x d al = d) ∨ (∃ o, ¬ x.toInt < 0 ∧ x.toInt < (offs.size : Int) ∧ offs[x.toInt.toNat]? = some o ∧ (pc : Int) + o = (am_sw x d al : Int)) := by
  have key : ∀ (l : List (Nat × Nat)) (k : Nat), (∀ j, j < l.length → ∃ t, l[j]? = some (k + j, t)) → k + l.length ≤ 1000 → (((x.toInt < (k : Int) ∨ ((k + l.length : Nat) : Int) ≤ x.toInt) ∧ am_sw x d l = d) ∨ (∃ j, j < l.length ∧ x.toInt = ((k + j : Nat) : Int) ∧ l[j]? = some (k + j, am_sw x d l))) := by
    intro l
    induction l with
    | nil =>
      intro k _ _
      left
      refine ⟨?_, rfl⟩
      simp only [List.length_nil, Nat.add_zero]
      omega
    | cons q l ih =>
      intro k hk hs
      obtain ⟨t, ht⟩ := hk 0 (by simp)
      have hq : q = (k, t) := by simpa using ht
      subst hq
      by_cases hx : x = Int32.ofNat k
      · right
        refine ⟨0, by simp, ?_, ?_⟩
        · rw [hx]
          have : (Int32.ofNat k).toInt = (k : Int) := nI_toInt (n := k) (by simp only [List.length_cons] at hs; omega)
          rw [this]
          simp
        · simp [am_sw, hx]
      · have hne : x.toInt ≠ (k : Int) := by
          intro h9
          apply hx
          have : (Int32.ofNat k).toInt = (k : Int) := nI_toInt (n := k) (by simp only [List.length_cons] at hs; omega)
          exact Int32.toInt.inj (h9.trans this.symm)
        have hsw : am_sw x d ((k, t) :: l) = am_sw x d l := by simp [am_sw, hx]
        rw [hsw]
        rcases ih (k + 1) (fun j hj => by
          obtain ⟨t', ht'⟩ := hk (j + 1) (by simp only [List.length_cons]; omega)
          refine ⟨t', ?_⟩
          rw [List.getElem?_cons_succ] at ht'
          rw [ht']
          congr 2
          omega) (by simp only [List.length_cons] at hs; omega) with h1 | ⟨j, h1, h2, h3⟩
        · left
          refine ⟨?_, h1.2⟩
          simp only [List.length_cons]
          have := h1.1
          omega
        · right
          refine ⟨j + 1, by simp only [List.length_cons]; omega, by rw [h2]; congr 1; omega, ?_⟩
          rw [List.getElem?_cons_succ, h3]
          congr 2
          omega
  rcases key al 0 (fun j hj => by
    obtain ⟨o, t, h1, h2, h3⟩ := hall j (by omega)
    exact ⟨t, by rw [h2]; simp⟩) (by omega) with h1 | ⟨j, h1, h2, h3⟩
  · left
    refine ⟨?_, h1.2⟩
    have := h1.1
    rw [hlen] at this
    simpa using this
  · right
    obtain ⟨o, t, g1, g2, g3⟩ := hall j (by omega)
    rw [Nat.zero_add] at h2 h3
    rw [h3] at g2
    cases g2
    refine ⟨o, by omega, by omega, ?_, g3⟩
    rw [h2]
    simpa using g1
section Go
variable {l : Launch} {D : va_G} {cyI cyO : ClassId} {H0 : Heap} {b L : Nat} {xs : Nat → Int32} {P : Nat × Nat}
variable {p : Program} {e : Env} {R : Room} {s : State} {m : MethodId} {args : Array Value} {below : List Frame} {meth : Method} {c : Code} {H : Heap} {locs : List Loc} {lsA : Array Slot} {n0 s0 : Nat} {Q : State → Prop}
set_option maxHeartbeats 4000000 in
theorem sn_go {M : am_M} {rt : Option FieldType} {pc n pc' : Nat} {i : Instr} {x : am_X} {ls ls' : am_L} {st st' : List Value} {h h' : am_H} (hdec : decode M.2.1 pc = .ok (i, n)) (hlen : (sn_isSw i || decide (n = sn_len i)) = true) (hck : sn_ck M pc i x = true)
    (ha : am_act P p_ty p_df rt pc i x ls st h = some (.inr (.inl (pc', ls', st', h')))) (hx : p.tables.exec = Jvm.exec) (hb : c.code = M.2.1) (hml : c.maxLocals = M.2.2.1) (hown : s.vm.findClass M.1.cls = some m.cls) (hts : ∀ w ∈ sn_gw, w.before args s = true) (hnm : M.1.name = "<init>" → meth.name = "<init>") (hK : sn_K D cyI cyO H0 b L xs P s)
    (hfr : M.2.2.2.2.1 ≤ R.frames) (hlo : M.2.2.2.2.2 ≤ R.locals) (hH : sn_H D cyI cyO H0 b L xs P h H) (hL : sn_L lsA ls) (hll : ls.length = M.2.2.1) (hl : ∀ q ∈ locs, H0.size ≤ q.base) (hn0 : n0 ≤ h.1) (hs0 : s0 ≤ h.2.1) (hRc : h'.1 - n0 ≤ R.cells) (hRs : h'.2.1 - s0 ≤ R.slots)
    (kk : ∀ (H1 : Heap) (locs1 : List Loc) (ls1 : Array Slot), sn_H D cyI cyO H0 b L xs P h' H1 → sn_L ls1 ls' → (∀ q ∈ locs1, H0.size ≤ q.base) → ls'.length = M.2.2.1 → W p l e R s m args below meth c H1 locs1 (h'.1 - n0) (h'.2.1 - s0) Q (F0 m pc' ls1 st')) : W p l e R s m args below meth c H locs (h.1 - n0) (h.2.1 - s0) Q (F0 m pc lsA st) := by
  have hsz : c.maxLocals = lsA.size := by rw [hml, hL.1, hll]
  unfold am_act at ha
  split at ha
  · rename_i k
    obtain rfl : n = 1 := of_decide_eq_true hlen
    cases ha
    exact lv_iconst hx hb hdec rfl (kk H locs lsA hH hL hl hll)
  · rename_i k
    obtain rfl : n = 2 := of_decide_eq_true hlen
    cases ha
    exact lv_bipush hx hb hdec rfl (kk H locs lsA hH hL hl hll)
  · rename_i k
    obtain rfl : n = 3 := of_decide_eq_true hlen
    cases ha
    exact lv_sipush hx hb hdec rfl (kk H locs lsA hH hL hl hll)
  · obtain rfl : n = 1 := of_decide_eq_true hlen
    cases ha
    exact lv_null hx hb hdec (kk H locs lsA hH hL hl hll)
  · rename_i k
    obtain rfl : n = 2 := of_decide_eq_true hlen
    split at ha
    · rename_i hx1
      cases ha
      have hw : Jvm.Cond.classLink M.1.cls k "[Ljava/lang/Object;" ∈ sn_gw := sn_mem_in (by simpa only [sn_ck, if_pos hx1] using hck)
      exact va_ldcM hx hb hown (hts _ hw) hK.2.2.2.2.2.2.1 hdec (kk H locs lsA hH hL hl hll)
    · rename_i hx1
      cases ha
      have hw : Jvm.Cond.constant M.1.cls k (Int32.ofInt x.2.2.2.1) ∈ sn_gw := sn_mem_in (by simpa only [sn_ck, if_neg hx1] using hck)
      exact lv_ldc hx hb hown (hts _ hw) hdec (kk H locs lsA hH hL hl hll)
  · rename_i k
    obtain rfl : n = 3 := of_decide_eq_true hlen
    cases ha
    exact lv_ldc2 hx hb hown (hts _ (sn_mem_in hck)) hdec (kk H locs lsA hH hL hl hll)
  · rename_i k
    obtain rfl : n = 1 := of_decide_eq_true hlen
    split at ha
    · rename_i v hv
      cases ha
      exact lv_iload_n hx hb hdec rfl (sn_ld hL hv) (kk H locs lsA hH hL hl hll)
    · cases ha
  · rename_i k
    obtain rfl : n = 2 := of_decide_eq_true hlen
    split at ha
    · rename_i v hv
      cases ha
      exact lv_iload hx hb hdec (sn_ld hL hv) (kk H locs lsA hH hL hl hll)
    · cases ha
  · rename_i k
    obtain rfl : n = 1 := of_decide_eq_true hlen
    split at ha
    · rename_i v hv
      cases ha
      exact lv_aload_n hx hb hdec rfl (sn_ld hL hv) (kk H locs lsA hH hL hl hll)
    · rename_i hv
      cases ha
      exact lv_aload_nN hx hb hdec rfl (sn_ld hL hv) (kk H locs lsA hH hL hl hll)
    · cases ha
  · rename_i k
    obtain rfl : n = 2 := of_decide_eq_true hlen
    split at ha
    · rename_i v hv
      cases ha
      exact lv_aload hx hb hdec (sn_ld hL hv) (kk H locs lsA hH hL hl hll)
    · rename_i hv
      cases ha
      exact lv_aloadN hx hb hdec (sn_ld hL hv) (kk H locs lsA hH hL hl hll)
    · cases ha
  · rename_i k
    obtain rfl : n = 1 := of_decide_eq_true hlen
    split at ha
    · rename_i v r
      split at ha
      · rename_i ls9 hs
        cases ha
        unfold am_st at hs
        split at hs
        · rename_i hk
          cases hs
          exact lv_istore_n hx hb hdec rfl hL.has hk rfl (fun ls1 hl1 => kk H locs ls1 hH (hL.set rfl hl1) hl (by rw [List.length_set]; exact hll))
        · cases hs
      · cases ha
    · cases ha
  · rename_i k
    obtain rfl : n = 2 := of_decide_eq_true hlen
    split at ha
    · rename_i v r
      split at ha
      · rename_i ls9 hs
        cases ha
        unfold am_st at hs
        split at hs
        · rename_i hk
          cases hs
          exact lv_istore hx hb hdec hL.has hk rfl (fun ls1 hl1 => kk H locs ls1 hH (hL.set rfl hl1) hl (by rw [List.length_set]; exact hll))
        · cases hs
      · cases ha
    · cases ha
  · rename_i k
    obtain rfl : n = 1 := of_decide_eq_true hlen
    split at ha
    · rename_i v r
      split at ha
      · rename_i ls9 hs
        cases ha
        unfold am_st at hs
        split at hs
        · rename_i hk
          cases hs
          exact lv_astore_n hx hb hdec rfl hL.has hk rfl (fun ls1 hl1 => kk H locs ls1 hH (hL.set rfl hl1) hl (by rw [List.length_set]; exact hll))
        · cases hs
      · cases ha
    · rename_i r
      split at ha
      · rename_i ls9 hs
        cases ha
        unfold am_st at hs
        split at hs
        · rename_i hk
          cases hs
          exact lv_astore_nN hx hb hdec rfl hL.has hk rfl (fun ls1 hl1 => kk H locs ls1 hH (hL.set rfl hl1) hl (by rw [List.length_set]; exact hll))
        · cases hs
      · cases ha
    · cases ha
  · rename_i k
    obtain rfl : n = 2 := of_decide_eq_true hlen
    split at ha
    · rename_i v r
      split at ha
      · rename_i ls9 hs
        cases ha
        unfold am_st at hs
        split at hs
        · rename_i hk
          cases hs
          exact lv_astore hx hb hdec hL.has hk rfl (fun ls1 hl1 => kk H locs ls1 hH (hL.set rfl hl1) hl (by rw [List.length_set]; exact hll))
        · cases hs
      · cases ha
    · rename_i r
      split at ha
      · rename_i ls9 hs
        cases ha
        unfold am_st at hs
        split at hs
        · rename_i hk
          cases hs
          exact lv_astoreN hx hb hdec hL.has hk rfl (fun ls1 hl1 => kk H locs ls1 hH (hL.set rfl hl1) hl (by rw [List.length_set]; exact hll))
        · cases hs
      · cases ha
    · cases ha
  · rename_i k nn
    obtain rfl : n = 3 := of_decide_eq_true hlen
    split at ha
    · rename_i v hv
      split at ha
      · rename_i ls9 hs
        cases ha
        unfold am_st at hs
        split at hs
        · rename_i hk
          cases hs
          have hmem : (k, Value.int v) ∈ sn_lv ls := by
            unfold am_ld at hv
            split at hv
            · rename_i w hw
              cases hv
              exact sn_lv_mem.mpr hw
            · cases hv
          obtain ⟨j, hj⟩ := List.getElem?_of_mem hmem
          exact lv_iinc hx hb hdec hL.has hj rfl hk rfl (fun ls1 hl1 => kk H locs ls1 hH (hL.set rfl hl1) hl (by rw [List.length_set]; exact hll))
        · cases hs
      · cases ha
    · cases ha
  · obtain rfl : n = 1 := of_decide_eq_true hlen
    split at ha
    · cases ha
      exact lv_iadd hx hb hdec (kk H locs lsA hH hL hl hll)
    · cases ha
  · obtain rfl : n = 1 := of_decide_eq_true hlen
    split at ha
    · cases ha
      exact lv_isub hx hb hdec (kk H locs lsA hH hL hl hll)
    · cases ha
  · obtain rfl : n = 1 := of_decide_eq_true hlen
    split at ha
    · cases ha
      exact lv_imul hx hb hdec (kk H locs lsA hH hL hl hll)
    · cases ha
  · obtain rfl : n = 1 := of_decide_eq_true hlen
    split at ha
    · cases ha
      exact lv_iand hx hb hdec (kk H locs lsA hH hL hl hll)
    · cases ha
  · obtain rfl : n = 1 := of_decide_eq_true hlen
    split at ha
    · cases ha
      exact lv_ior hx hb hdec (kk H locs lsA hH hL hl hll)
    · cases ha
  · obtain rfl : n = 1 := of_decide_eq_true hlen
    split at ha
    · cases ha
      exact lv_ishl hx hb hdec (kk H locs lsA hH hL hl hll)
    · cases ha
  · obtain rfl : n = 1 := of_decide_eq_true hlen
    split at ha
    · cases ha
      exact lv_ishr hx hb hdec (kk H locs lsA hH hL hl hll)
    · cases ha
  · obtain rfl : n = 1 := of_decide_eq_true hlen
    split at ha
    · cases ha
      exact lv_i2l hx hb hdec rfl (kk H locs lsA hH hL hl hll)
    · cases ha
  · obtain rfl : n = 1 := of_decide_eq_true hlen
    split at ha
    · cases ha
      exact W.lcmp hx hb hdec (kk H locs lsA hH hL hl hll)
    · cases ha
  · obtain rfl : n = 1 := of_decide_eq_true hlen
    split at ha
    · cases ha
      exact lv_dup hx hb hdec rfl (kk H locs lsA hH hL hl hll)
    · cases ha
      exact lv_dup hx hb hdec rfl (kk H locs lsA hH hL hl hll)
    · cases ha
  · obtain rfl : n = 1 := of_decide_eq_true hlen
    split at ha
    · cases ha
      exact lv_dup_x1 hx hb hdec rfl rfl (kk H locs lsA hH hL hl hll)
    · cases ha
      exact lv_dup_x1 hx hb hdec rfl rfl (kk H locs lsA hH hL hl hll)
    · cases ha
  · obtain rfl : n = 1 := of_decide_eq_true hlen
    split at ha
    · cases ha
      exact lv_dup2_11 hx hb hdec rfl rfl (kk H locs lsA hH hL hl hll)
    · cases ha
  · obtain rfl : n = 1 := of_decide_eq_true hlen
    split at ha
    · cases ha
      exact lv_pop hx hb hdec rfl (kk H locs lsA hH hL hl hll)
    · cases ha
  · rename_i off
    obtain rfl : n = 3 := of_decide_eq_true hlen
    cases ha
    exact lv_goto hx hb hdec (of_decide_eq_true hck) (kk H locs lsA hH hL hl hll)
  · rename_i cd off
    obtain rfl : n = 3 := of_decide_eq_true hlen
    split at ha
    · rename_i a r
      unfold am_br at ha
      split at ha
      · split at ha
        · rename_i hcnd
          cases ha
          exact lv_if_eq hx hb hdec (of_decide_eq_true hck) (fun _ => (kk H locs lsA hH hL hl hll)) (fun q => absurd hcnd q)
        · rename_i hcnd
          cases ha
          exact lv_if_eq hx hb hdec (of_decide_eq_true hck) (fun q => absurd q hcnd) (fun _ => (kk H locs lsA hH hL hl hll))
      · split at ha
        · rename_i hcnd
          cases ha
          exact lv_if_ne hx hb hdec (of_decide_eq_true hck) (fun q => absurd hcnd q) (fun _ => (kk H locs lsA hH hL hl hll))
        · rename_i hcnd
          cases ha
          exact lv_if_ne hx hb hdec (of_decide_eq_true hck) (fun _ => (kk H locs lsA hH hL hl hll)) (fun q => absurd q hcnd)
      · split at ha
        · rename_i hcnd
          cases ha
          exact lv_if_lt hx hb hdec (of_decide_eq_true hck) (fun _ => (kk H locs lsA hH hL hl hll)) (fun q => absurd hcnd q)
        · rename_i hcnd
          cases ha
          exact lv_if_lt hx hb hdec (of_decide_eq_true hck) (fun q => absurd q hcnd) (fun _ => (kk H locs lsA hH hL hl hll))
      · split at ha
        · rename_i hcnd
          cases ha
          exact lv_if_ge hx hb hdec (of_decide_eq_true hck) (fun _ => (kk H locs lsA hH hL hl hll)) (fun q => absurd hcnd q)
        · rename_i hcnd
          cases ha
          exact lv_if_ge hx hb hdec (of_decide_eq_true hck) (fun q => absurd q hcnd) (fun _ => (kk H locs lsA hH hL hl hll))
      · split at ha
        · rename_i hcnd
          cases ha
          exact lv_if_gt hx hb hdec (of_decide_eq_true hck) (fun _ => (kk H locs lsA hH hL hl hll)) (fun q => absurd hcnd q)
        · rename_i hcnd
          cases ha
          exact lv_if_gt hx hb hdec (of_decide_eq_true hck) (fun q => absurd q hcnd) (fun _ => (kk H locs lsA hH hL hl hll))
      · split at ha
        · rename_i hcnd
          cases ha
          exact lv_if_le hx hb hdec (of_decide_eq_true hck) (fun _ => (kk H locs lsA hH hL hl hll)) (fun q => absurd hcnd q)
        · rename_i hcnd
          cases ha
          exact lv_if_le hx hb hdec (of_decide_eq_true hck) (fun q => absurd q hcnd) (fun _ => (kk H locs lsA hH hL hl hll))
    · cases ha
  · rename_i cd off
    obtain rfl : n = 3 := of_decide_eq_true hlen
    split at ha
    · rename_i b1 a1 r
      unfold am_br at ha
      split at ha
      · split at ha
        · rename_i hcnd
          cases ha
          exact lv_icmp_eq hx hb hdec (of_decide_eq_true hck) (fun _ => (kk H locs lsA hH hL hl hll)) (fun q => absurd hcnd q)
        · rename_i hcnd
          cases ha
          exact lv_icmp_eq hx hb hdec (of_decide_eq_true hck) (fun q => absurd q hcnd) (fun _ => (kk H locs lsA hH hL hl hll))
      · split at ha
        · rename_i hcnd
          cases ha
          exact lv_icmp_ne hx hb hdec (of_decide_eq_true hck) (fun q => absurd hcnd q) (fun _ => (kk H locs lsA hH hL hl hll))
        · rename_i hcnd
          cases ha
          exact lv_icmp_ne hx hb hdec (of_decide_eq_true hck) (fun _ => (kk H locs lsA hH hL hl hll)) (fun q => absurd q hcnd)
      · split at ha
        · rename_i hcnd
          cases ha
          exact lv_icmp_lt hx hb hdec (of_decide_eq_true hck) (fun _ => (kk H locs lsA hH hL hl hll)) (fun q => absurd hcnd q)
        · rename_i hcnd
          cases ha
          exact lv_icmp_lt hx hb hdec (of_decide_eq_true hck) (fun q => absurd q hcnd) (fun _ => (kk H locs lsA hH hL hl hll))
      · split at ha
        · rename_i hcnd
          cases ha
          exact lv_icmp_ge hx hb hdec (of_decide_eq_true hck) (fun _ => (kk H locs lsA hH hL hl hll)) (fun q => absurd hcnd q)
        · rename_i hcnd
          cases ha
          exact lv_icmp_ge hx hb hdec (of_decide_eq_true hck) (fun q => absurd q hcnd) (fun _ => (kk H locs lsA hH hL hl hll))
      · split at ha
        · rename_i hcnd
          cases ha
          exact lv_icmp_gt hx hb hdec (of_decide_eq_true hck) (fun _ => (kk H locs lsA hH hL hl hll)) (fun q => absurd hcnd q)
        · rename_i hcnd
          cases ha
          exact lv_icmp_gt hx hb hdec (of_decide_eq_true hck) (fun q => absurd q hcnd) (fun _ => (kk H locs lsA hH hL hl hll))
      · split at ha
        · rename_i hcnd
          cases ha
          exact lv_icmp_le hx hb hdec (of_decide_eq_true hck) (fun _ => (kk H locs lsA hH hL hl hll)) (fun q => absurd hcnd q)
        · rename_i hcnd
          cases ha
          exact lv_icmp_le hx hb hdec (of_decide_eq_true hck) (fun q => absurd q hcnd) (fun _ => (kk H locs lsA hH hL hl hll))
    · cases ha
  · rename_i cd off
    obtain rfl : n = 3 := of_decide_eq_true hlen
    split at ha
    · rename_i b1 a1 r
      split at ha
      · rename_i a2 b2 e1 e2
        rw [sn_rf e1, sn_rf e2]
        unfold am_abr at ha
        split at ha
        · split at ha
          · rename_i hcnd
            cases ha
            exact lv_acmp_eq hx hb hdec (of_decide_eq_true hck) (fun _ => (kk H locs lsA hH hL hl hll)) (fun q => absurd hcnd q)
          · rename_i hcnd
            cases ha
            exact lv_acmp_eq hx hb hdec (of_decide_eq_true hck) (fun q => absurd q hcnd) (fun _ => (kk H locs lsA hH hL hl hll))
        · split at ha
          · rename_i hcnd
            cases ha
            exact lv_acmp_ne hx hb hdec (of_decide_eq_true hck) (fun q => absurd hcnd q) (fun _ => (kk H locs lsA hH hL hl hll))
          · rename_i hcnd
            cases ha
            exact lv_acmp_ne hx hb hdec (of_decide_eq_true hck) (fun _ => (kk H locs lsA hH hL hl hll)) (fun q => absurd q hcnd)
      · cases ha
    · cases ha
  · rename_i off
    obtain rfl : n = 3 := of_decide_eq_true hlen
    split at ha
    · cases ha
      exact lv_ifnullN hx hb hdec (of_decide_eq_true hck) (kk H locs lsA hH hL hl hll)
    · cases ha
      exact lv_ifnull hx hb hdec (kk H locs lsA hH hL hl hll)
    · cases ha
  · rename_i off
    obtain rfl : n = 3 := of_decide_eq_true hlen
    split at ha
    · cases ha
      exact lv_ifnonnullN hx hb hdec (kk H locs lsA hH hL hl hll)
    · cases ha
      exact lv_ifnonnull hx hb hdec (of_decide_eq_true hck) (kk H locs lsA hH hL hl hll)
    · cases ha
  · rename_i dd lo hi offs
    split at ha
    · rename_i a r
      cases ha
      simp only [sn_ck, Bool.and_eq_true, decide_eq_true_eq] at hck
      obtain ⟨rfl, h2, h3, h4, h5, h6⟩ := hck
      rcases sn_sw (x := a) h2 h4 h5 (fun j hj => by
        have h7 := List.all_eq_true.mp h6 j (List.mem_range.mpr hj)
        split at h7
        · rename_i o q e1 e2
          simp only [Bool.and_eq_true, decide_eq_true_eq] at h7
          obtain ⟨q1, q2⟩ := q
          obtain ⟨rfl, h8⟩ := h7
          exact ⟨o, q2, e1, e2, h8⟩
        · cases h7) with ⟨g1, g2⟩ | ⟨o, g1, g2, g3, g4⟩
      · rw [g2] at kk
        exact lv_tableOut hx hb hdec (by omega) h2 (kk H locs lsA hH hL hl hll)
      · exact lv_tableIn hx hb hdec g1 (by omega) (by rw [Int.sub_zero]; exact g3) g4 (kk H locs lsA hH hL hl hll)
    · cases ha
  · rename_i idx
    obtain rfl : n = 3 := of_decide_eq_true hlen
    split at ha
    · split at ha
      · rename_i v hv
        cases ha
        exact sn_w_get hx hb hts hown hK hH hck hv hdec (kk H locs lsA hH hL hl hll)
      · cases ha
    · cases ha
  · rename_i idx
    obtain rfl : n = 3 := of_decide_eq_true hlen
    split at ha
    · split at ha
      · rename_i h9 hv
        cases ha
        obtain ⟨e1, e2⟩ := sn_pf_n hv
        rw [e1, e2] at kk
        exact sn_w_put hx hb hts hown hK hH hnm hck hv hl hdec (fun H1 locs1 g1 g2 => kk H1 locs1 lsA g1 hL g2 hll)
      · cases ha
    · cases ha
  · rename_i idx
    obtain rfl : n = 3 := of_decide_eq_true hlen
    cases ha
    exact sn_w_stat hx hb hts hown hK hH (sn_mem_in hck) hdec (kk H locs lsA hH hL hl hll)
  · rename_i idx
    obtain rfl : n = 3 := of_decide_eq_true hlen
    cases ha
    simp only [sn_ck] at hck
    split at hck
    · rename_i r hr
      obtain ⟨C, T, N⟩ := r
      simp only [Bool.and_eq_true] at hck
      obtain ⟨h1, h2, h3⟩ := hck
      have hN : (p_df x.1).length = N := (sn_cls x.1 C T N hr).2.2.2.2
      simp only [ah_new] at hRc hRs
      refine sn_w_new hx hb hts hown hK hH hr (sn_mem_in h1) (sn_mem_in h2) (sn_mem_in h3) (by omega) (by omega) hdec (fun H1 g1 => ?_)
      have := kk H1 locs lsA g1 hL hl hll
      simp only [ah_new] at this
      rw [show h.1 + 1 - n0 = h.1 - n0 + 1 by omega, show h.2.1 + (p_df x.1).length - s0 = h.2.1 - s0 + N by omega] at this
      exact this
    · cases hck
  · rename_i ty9
    obtain rfl : n = 2 := of_decide_eq_true hlen
    split at ha
    · rename_i nn r
      split at ha
      · cases ha
      · rename_i hn
        cases ha
        obtain rfl := of_decide_eq_true hck
        simp only [ah_new] at hRc hRs
        refine sn_w_newa hx hb hK hH hts (sn_glob 4 rfl) hn (by omega) (by omega) hdec (fun H1 g1 => ?_)
        have := kk H1 locs lsA g1 hL hl hll
        simp only [ah_new] at this
        rw [show h.1 + 1 - n0 = h.1 - n0 + 1 by omega, show h.2.1 + nn.toNatClampNeg - s0 = h.2.1 - s0 + nn.toNatClampNeg by omega] at this
        exact this
    · cases ha
  · rename_i idx
    obtain rfl : n = 3 := of_decide_eq_true hlen
    split at ha
    · rename_i nn r
      split at ha
      · cases ha
      · rename_i hn
        cases ha
        simp only [ah_new] at hRc hRs
        refine sn_w_newr hx hb hK hH hts hown (sn_mem_in hck) hn (by omega) (by omega) hdec (fun H1 g1 => ?_)
        have := kk H1 locs lsA g1 hL hl hll
        simp only [ah_new] at this
        rw [show h.1 + 1 - n0 = h.1 - n0 + 1 by omega, show h.2.1 + nn.toNatClampNeg - s0 = h.2.1 - s0 + nn.toNatClampNeg by omega] at this
        exact this
    · cases ha
  · obtain rfl : n = 1 := of_decide_eq_true hlen
    split at ha
    · split at ha
      · rename_i v hv
        cases ha
        exact sn_w_iald hx hb hK hH hv hdec (kk H locs lsA hH hL hl hll)
      · cases ha
    · cases ha
  · obtain rfl : n = 1 := of_decide_eq_true hlen
    split at ha
    · split at ha
      · rename_i h9 hv
        cases ha
        obtain ⟨e1, e2⟩ := sn_iast_n hv
        rw [e1, e2] at kk
        exact sn_w_iast hx hb hK hH hv hl hdec (fun H1 locs1 g1 g2 => kk H1 locs1 lsA g1 hL g2 hll)
      · cases ha
    · cases ha
  · obtain rfl : n = 1 := of_decide_eq_true hlen
    split at ha
    · split at ha
      · rename_i v hv
        cases ha
        exact sn_w_aald hx hb hK hH hv hdec (kk H locs lsA hH hL hl hll)
      · cases ha
    · cases ha
  · obtain rfl : n = 1 := of_decide_eq_true hlen
    split at ha
    · split at ha
      · rename_i h9 hv
        cases ha
        obtain ⟨e1, e2⟩ := sn_aast_n hv
        rw [e1, e2] at kk
        exact sn_w_aast hx hb hK hH hv hl hdec (fun H1 locs1 g1 g2 => kk H1 locs1 lsA g1 hL g2 hll)
      · cases ha
    · cases ha
  · obtain rfl : n = 1 := of_decide_eq_true hlen
    split at ha
    · split at ha
      · rename_i v hv
        cases ha
        exact sn_w_alen hx hb hK hH hv hdec (kk H locs lsA hH hL hl hll)
      · cases ha
    · cases ha
  · rename_i idx
    obtain rfl : n = 3 := of_decide_eq_true hlen
    split at ha
    · cases ha
      exact lv_castN hx hb hdec (kk H locs lsA hH hL hl hll)
    · split at ha
      · rename_i hc
        cases ha
        simp only [sn_ck] at hck
        split at hck
        · rename_i r hr
          obtain ⟨C, T, N⟩ := r
          exact sn_w_cast hx hb hts hown hK hH hr (sn_mem_in hck) hc hdec (kk H locs lsA hH hL hl hll)
        · cases hck
      · cases ha
    · cases ha
  · split at ha
    · split at ha <;> cases ha
    · cases ha
  · split at ha <;> cases ha
  · split at ha <;> cases ha
  · split at ha <;> cases ha
  · rename_i idx
    obtain rfl : n = 3 := of_decide_eq_true hlen
    split at ha
    · rename_i hk9
      split at ha
      · split at ha
        · rename_i hcnd
          split at ha
          · rename_i h9 hv
            cases ha
            obtain ⟨rfl, rfl, hrl⟩ := hcnd
            obtain ⟨e1, e2⟩ := sn_copy_n hv
            rw [e1, e2] at kk
            simp only [sn_ck, if_pos hk9, Bool.and_eq_true, decide_eq_true_eq] at hck
            exact sn_w_copy hx hb hsz hts hown hK hH (sn_mem_in hck.1) hv hl (by omega) (by omega) hrl hdec (fun H1 locs1 g1 g2 => kk H1 locs1 lsA g1 hL g2 hll)
          · cases ha
        · cases ha
      · cases ha
    · split at ha
      · split at ha <;> cases ha
      · cases ha
  · rename_i idx
    obtain rfl : n = 3 := of_decide_eq_true hlen
    split at ha
    · rename_i hk9
      split at ha
      · split at ha
        · rename_i hrl
          cases ha
          have hwd := sn_words hrl
          simp only [sn_ck, if_pos hk9, Bool.and_eq_true, decide_eq_true_eq] at hck
          exact W.objInit hx hb hown (hts _ (sn_mem_in hck.1)) (hts _ (sn_glob 3 rfl)) (hts _ sn_objInit) rfl hsz.symm rfl hdec (by omega) (by show 2 * 0 + _ + 12 ≤ _; omega) (kk H locs lsA hH hL hl hll)
        · cases ha
      · cases ha
    · split at ha
      · split at ha <;> cases ha
      · cases ha
  · rename_i idx
    obtain rfl : n = 3 := of_decide_eq_true hlen
    split at ha
    · rename_i hk9
      split at ha
      · split at ha
        · rename_i q hc
          split at ha
          · rename_i hrl
            cases ha
            simp only [sn_ck, if_pos hk9, Bool.and_eq_true, decide_eq_true_eq] at hck
            exact sn_w_getC (n := q.1) (f := q.2) hx hb hsz hts hown hK hH (sn_mem_in hck.1) hc (by omega) (by omega) hrl hdec (kk H locs lsA hH hL hl hll)
          · cases ha
        · cases ha
      · cases ha
    · split at ha
      · split at ha
        · split at ha
          · split at ha <;> cases ha
          · cases ha
        · cases ha
      · cases ha
  · cases ha
end Go
