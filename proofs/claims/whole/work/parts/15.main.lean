/-! The whole: a run of the abstract machine is a run of the machine. -/
def sn_F (Z : am_M → am_T → Prop) : List am_M → List am_T → Prop
  | [], [] => True
  | a :: as, b :: bs => Z a b ∧ sn_F Z as bs
  | _, _ => False
theorem sn_F_get {Z : am_M → am_T → Prop} : ∀ {as : List am_M} {bs : List am_T} {i : Nat} {a : am_M} {b : am_T}, sn_F Z as bs → as[i]? = some a → bs[i]? = some b → Z a b := by
  intro as
  induction as with
  | nil => intro bs i a b _ ha; cases ha
  | cons q as ih =>
    intro bs i a b h ha hb
    cases bs with
    | nil => cases hb
    | cons z bs =>
      cases i with
      | zero => cases ha; cases hb; exact h.1
      | succ i => exact ih h.2 ha hb
set_option maxRecDepth 100000 in
theorem sn_rows_all : sn_F (fun M t => t.all (sn_row M) = true) p_ms p_tbs := ⟨q_r0, q_r1, q_r2, q_r3, q_r4, q_r5, q_r6, q_r7, q_r8, q_r9, q_r10, q_r11, q_r12, q_r13, q_r14, q_r15, q_r16, q_r17, q_r18, q_r19, q_r20, q_r21, q_r22, q_r23, q_r24, q_r25, q_r26, q_r27, q_r28, q_r29, q_r30, q_r31, q_r32, q_r33, q_r34, q_r35, q_r36, q_r37, q_r38, q_r39, q_r40, q_r41, q_r42, q_r43, q_r44, q_r45, q_r46, q_r47, q_r48, q_r49, q_r50, q_r51, q_r52, q_r53, q_r54, q_r55, q_r56, q_r57, q_r58, q_r59, q_r60, q_r61, q_r62, q_r63, q_r64, q_r65, q_r66, q_r67, q_r68, q_r69, q_r70, q_r71, q_r72, q_r73, q_r74, q_r75, q_r76, q_r77, q_r78, q_r79, q_r80, q_r81, q_r82, q_r83, q_r84, q_r85, q_r86, q_r87, q_r88, q_r89, q_r90, q_r91, q_r92, q_r93, q_r94, q_r95, q_r96, q_r97, q_r98, q_r99, q_r100, q_r101, q_r102, q_r103, q_r104, q_r105, q_r106, q_r107, q_r108, q_r109, q_r110, q_r111, q_r112, q_r113, q_r114, q_r115, q_r116, q_r117, q_r118, q_r119, q_r120, q_r121, q_r122, q_r123, q_r124, q_r125, q_r126, q_r127, q_r128, q_r129, q_r130, trivial⟩
theorem sn_rows {mi pc n : Nat} {M : am_M} {i : Instr} {x : am_X} (hM : p_ms[mi]? = some M) (hp : p_at mi pc = some (i, n, x)) : decode M.2.1 pc = .ok (i, n) ∧ (sn_isSw i || decide (n = sn_len i)) = true ∧ sn_ck M pc i x = true := by
  unfold p_at at hp
  split at hp
  · rename_i t ht
    have h1 : t.all (sn_row M) = true := sn_F_get sn_rows_all hM ht
    have hm : (pc, i, n, x) ∈ t := by
      clear h1 ht
      induction t with
      | nil => cases hp
      | cons q t ih =>
        obtain ⟨q1, q2⟩ := q
        rw [List.lookup_cons] at hp
        split at hp
        · rename_i hq
          cases hp
          rw [eq_of_beq hq]
          exact List.mem_cons_self
        · exact List.mem_cons_of_mem _ (ih hp)
    have h2 := List.all_eq_true.mp h1 _ hm
    simp only [sn_row, Bool.and_eq_true, decide_eq_true_eq] at h2
    exact h2
  · cases hp
def sn_Gs (Z : Nat → am_M → Prop) : Nat → List am_M → Prop
  | _, [] => True
  | k, a :: as => Z k a ∧ sn_Gs Z (k + 1) as
theorem sn_Gs_get {Z : Nat → am_M → Prop} : ∀ {as : List am_M} {k i : Nat} {a : am_M}, sn_Gs Z k as → as[i]? = some a → Z (k + i) a := by
  intro as
  induction as with
  | nil => intro k i a _ ha; cases ha
  | cons q as ih =>
    intro k i a h ha
    cases i with
    | zero => cases ha; exact h.1
    | succ i =>
      have := ih (i := i) h.2 ha
      rw [show k + 1 + i = k + (i + 1) by omega] at this
      exact this
set_option maxRecDepth 100000 in
theorem sn_codes_all : sn_Gs (fun k M => k < 130 → Jvm.Cond.code M.1 M.2.1 M.2.2.1 M.2.2.2.1 ∈ sn_gw) 0 p_ms := ⟨fun _ => q_c0, fun _ => q_c1, fun _ => q_c2, fun _ => q_c3, fun _ => q_c4, fun _ => q_c5, fun _ => q_c6, fun _ => q_c7, fun _ => q_c8, fun _ => q_c9, fun _ => q_c10, fun _ => q_c11, fun _ => q_c12, fun _ => q_c13, fun _ => q_c14, fun _ => q_c15, fun _ => q_c16, fun _ => q_c17, fun _ => q_c18, fun _ => q_c19, fun _ => q_c20, fun _ => q_c21, fun _ => q_c22, fun _ => q_c23, fun _ => q_c24, fun _ => q_c25, fun _ => q_c26, fun _ => q_c27, fun _ => q_c28, fun _ => q_c29, fun _ => q_c30, fun _ => q_c31, fun _ => q_c32, fun _ => q_c33, fun _ => q_c34, fun _ => q_c35, fun _ => q_c36, fun _ => q_c37, fun _ => q_c38, fun _ => q_c39, fun _ => q_c40, fun _ => q_c41, fun _ => q_c42, fun _ => q_c43, fun _ => q_c44, fun _ => q_c45, fun _ => q_c46, fun _ => q_c47, fun _ => q_c48, fun _ => q_c49, fun _ => q_c50, fun _ => q_c51, fun _ => q_c52, fun _ => q_c53, fun _ => q_c54, fun _ => q_c55, fun _ => q_c56, fun _ => q_c57, fun _ => q_c58, fun _ => q_c59, fun _ => q_c60, fun _ => q_c61, fun _ => q_c62, fun _ => q_c63, fun _ => q_c64, fun _ => q_c65, fun _ => q_c66, fun _ => q_c67, fun _ => q_c68, fun _ => q_c69, fun _ => q_c70, fun _ => q_c71, fun _ => q_c72, fun _ => q_c73, fun _ => q_c74, fun _ => q_c75, fun _ => q_c76, fun _ => q_c77, fun _ => q_c78, fun _ => q_c79, fun _ => q_c80, fun _ => q_c81, fun _ => q_c82, fun _ => q_c83, fun _ => q_c84, fun _ => q_c85, fun _ => q_c86, fun _ => q_c87, fun _ => q_c88, fun _ => q_c89, fun _ => q_c90, fun _ => q_c91, fun _ => q_c92, fun _ => q_c93, fun _ => q_c94, fun _ => q_c95, fun _ => q_c96, fun _ => q_c97, fun _ => q_c98, fun _ => q_c99, fun _ => q_c100, fun _ => q_c101, fun _ => q_c102, fun _ => q_c103, fun _ => q_c104, fun _ => q_c105, fun _ => q_c106, fun _ => q_c107, fun _ => q_c108, fun _ => q_c109, fun _ => q_c110, fun _ => q_c111, fun _ => q_c112, fun _ => q_c113, fun _ => q_c114, fun _ => q_c115, fun _ => q_c116, fun _ => q_c117, fun _ => q_c118, fun _ => q_c119, fun _ => q_c120, fun _ => q_c121, fun _ => q_c122, fun _ => q_c123, fun _ => q_c124, fun _ => q_c125, fun _ => q_c126, fun _ => q_c127, fun _ => q_c128, fun _ => q_c129, fun h => absurd h (by decide), trivial⟩
theorem sn_codes {mi : Nat} {M : am_M} (hM : p_ms[mi]? = some M) (h : mi < 130) : Jvm.Cond.code M.1 M.2.1 M.2.2.1 M.2.2.2.1 ∈ sn_gw := by
  have := sn_Gs_get sn_codes_all hM
  rw [Nat.zero_add] at this
  exact this h
def sn_msok : Bool := (List.range 131).all (fun mi => match p_ms[mi]? with
  | some M => plainFor M.1 && (decide (p_ml mi = M.2.2.1) && decide (p_rt mi = M.2.2.2.1))
  | none => false)
theorem sn_msok_ok : sn_msok = true := by decide +kernel
theorem sn_ms {mi : Nat} {M : am_M} (hM : p_ms[mi]? = some M) : plainFor M.1 = true ∧ p_ml mi = M.2.2.1 ∧ p_rt mi = M.2.2.2.1 := by
  have hlt : mi < p_ms.length := (List.getElem?_eq_some_iff.mp hM).1
  have h1 := List.all_eq_true.mp sn_msok_ok mi (List.mem_range.mpr hlt)
  simp only [hM, Bool.and_eq_true, decide_eq_true_eq] at h1
  exact h1
/-- no call goes to the law -/
def sn_noL : Bool := p_tbs.all (fun t => t.all (fun r => match r.2.1 with
  | .invokestatic _ => Nat.blt r.2.2.2.1 130
  | .invokespecial _ => Nat.blt r.2.2.2.1 130
  | .invokevirtual _ => Nat.blt r.2.2.2.1 130
  | _ => true))
theorem sn_noL_ok : sn_noL = true := by decide +kernel
theorem sn_pop : ∀ {n : Nat} {acc st as rr : List Value}, am_pop n acc st = some (as, rr) → ∃ fr : List Value, fr.length = n ∧ as = fr.reverse ++ acc ∧ st = fr ++ rr := by
  intro n
  induction n with
  | zero => intro acc st as rr h; cases h; exact ⟨[], rfl, rfl, rfl⟩
  | succ n ih =>
    intro acc st as rr h
    cases st with
    | nil => cases h
    | cons v st =>
      obtain ⟨fr, h1, h2, h3⟩ := ih (acc := v :: acc) h
      exact ⟨v :: fr, by simp [h1], by simp [h2], by simp [h3]⟩
theorem sn_c1 {v : Value} (h : am_c1 v = true) : v.category = 1 := by
  unfold am_c1 at h
  split at h <;> first | rfl | cases h
theorem sn_sl : ∀ {as : List Value}, as.all am_c1 = true → lg_sl as = as.map Slot.val := by
  intro as
  induction as with
  | nil => intro _; rfl
  | cons v as ih =>
    intro h
    rw [List.all_cons, Bool.and_eq_true] at h
    have hc := sn_c1 h.1
    have := ih h.2
    simp only [lg_sl, List.flatMap_cons, List.map_cons] at this ⊢
    rw [if_neg (by omega), this]
    rfl
theorem sn_args : ∀ {as : List Value} {k i : Nat} {v : Value}, as.all am_c1 = true → as[i]? = some v → (k + i, v) ∈ lv_args k as := by
  intro as
  induction as with
  | nil => intro k i v _ h; cases h
  | cons q as ih =>
    intro k i v h hi
    rw [List.all_cons, Bool.and_eq_true] at h
    have hc := sn_c1 h.1
    unfold lv_args
    rw [if_neg (by omega)]
    cases i with
    | zero => cases hi; exact List.mem_cons_self
    | succ i =>
      have := ih (k := k + 1) (i := i) h.2 hi
      rw [show k + 1 + i = k + (i + 1) by omega] at this
      exact List.mem_cons_of_mem _ this
theorem sn_entry {as : List Value} {n : Nat} (h : as.all am_c1 = true) (hn : as.length ≤ n) : sn_L ((lg_sl as ++ List.replicate (n - (lg_sl as).length) Slot.unset).toArray) (am_ini as n) := by
  have hlen : (lg_sl as).length = as.length := by rw [sn_sl h, List.length_map]
  have hl := lv_entry as (n := n) (by omega)
  have hil : (am_ini as n).length = n := by
    unfold am_ini
    rw [List.length_append, List.length_map, List.length_replicate]
    omega
  refine ⟨by rw [hl.1, hil], hl.2.1, fun i v hi => ?_⟩
  have hi' : as[i]? = some v := by
    unfold am_ini at hi
    by_cases hlt : i < as.length
    · rw [List.getElem?_append_left (by rw [List.length_map]; exact hlt), List.getElem?_map] at hi
      cases hq : as[i]? with
      | none => rw [hq] at hi; cases hi
      | some q => rw [hq] at hi; cases hi; rfl
    · rw [List.getElem?_append_right (by rw [List.length_map]; omega)] at hi
      have := List.eq_of_mem_replicate (List.mem_of_getElem? hi)
      cases this
  have hm := sn_args (k := 0) h hi'
  rw [Nat.zero_add] at hm
  refine ⟨hl.2.2 (i, v) hm, ?_⟩
  exact sn_c1 (List.all_eq_true.mp h v (List.mem_of_getElem? hi'))
section Main
variable {l : Launch} {D : va_G} {cyI cyO : ClassId} {H0 : Heap} {b L : Nat} {xs : Nat → Int32} {P : Nat × Nat}
theorem sn_run_le : ∀ {f mi pc : Nat} {ls : am_L} {st : List Value} {h h' : am_H} {r : Option Value}, am_run P f mi pc ls st h = some (r, h') → h.1 ≤ h'.1 ∧ h.2.1 ≤ h'.2.1 := by
  intro f
  induction f with
  | zero => intro mi pc ls st h h' r hr; cases hr
  | succ f ih =>
    intro mi pc ls st h h' r hr
    unfold am_run am_step at hr
    split at hr
    · cases hr
    · rename_i i n x hp
      split at hr
      · cases hr
      · rename_i q hq
        cases hr
        have hq2 : am_act P p_ty p_df (p_rt mi) pc i x ls st h = some (.inl (r, h')) := hq
        cases hM : p_ms[mi]? with
        | none =>
          exfalso
          unfold p_at at hp
          split at hp
          · rename_i t ht
            have h1 : mi < p_tbs.length := (List.getElem?_eq_some_iff.mp ht).1
            have h2 : p_ms.length ≤ mi := List.getElem?_eq_none_iff.mp hM
            have h3 : p_tbs.length = p_ms.length := rfl
            omega
          · cases hp
        | some M =>
          obtain ⟨h1, h2, h3⟩ := sn_rows hM hp
          obtain ⟨e1, -, -⟩ := sn_act_ret (sn_ms hM).2.2 h1 h2 h3 hq2
          rw [e1]
          exact ⟨Nat.le_refl _, Nat.le_refl _⟩
      · rename_i pc' ls' st' h1 hq
        have a1 := sn_act_le hq
        have a2 := ih hr
        omega
      · rename_i cy as rr hq
        split at hr
        · cases hr
        · rename_i v h1 hc
          have a1 := ih hc
          have a2 := ih hr
          omega
/-- the statement, at a fuel -/
def sn_at (l : Launch) (D : va_G) (cyI cyO : ClassId) (H0 : Heap) (b L : Nat) (xs : Nat → Int32) (P : Nat × Nat) (f : Nat) : Prop :=
  ∀ (mi pc : Nat) (ls : am_L) (st : List Value) (h h' : am_H) (r : Option Value), am_run P f mi pc ls st h = some (r, h') → ∀ (M : am_M), p_ms[mi]? = some M →
  ∀ (p : Program) (e : Env) (R : Room) (s : State) (m : MethodId) (args : Array Value) (below : List Frame) (meth : Method) (c : Code) (H : Heap) (locs : List Loc) (lsA : Array Slot) (n0 s0 : Nat) (Q : State → Prop),
  p.tables.exec = Jvm.exec → c.code = M.2.1 → c.maxLocals = M.2.2.1 → s.vm.findClass M.1.cls = some m.cls → (∀ w ∈ sn_gw, w.before args s = true) → (M.1.name = "<init>" → meth.name = "<init>") → sn_K D cyI cyO H0 b L xs P s →
  M.2.2.2.2.1 ≤ R.frames → M.2.2.2.2.2 ≤ R.locals → sn_H D cyI cyO H0 b L xs P h H → sn_L lsA ls → ls.length = M.2.2.1 → (∀ q ∈ locs, H0.size ≤ q.base) → n0 ≤ h.1 → s0 ≤ h.2.1 → h'.1 - n0 ≤ R.cells → h'.2.1 - s0 ≤ R.slots →
  (∀ (H1 : Heap) (locs1 : List Loc) (pc1 : Nat) (ls1 : Array Slot), sn_H D cyI cyO H0 b L xs P h' H1 → (∀ q ∈ locs1, H0.size ≤ q.base) → sn_ret M pc1 r → W p l e R s m args below meth c H1 locs1 (h'.1 - n0) (h'.2.1 - s0) Q (F0 m pc1 ls1 r.toList)) →
  W p l e R s m args below meth c H locs (h.1 - n0) (h.2.1 - s0) Q (F0 m pc lsA st)
theorem sn_met {f mi : Nat} {M : am_M} {as : List Value} {h h' : am_H} {r : Option Value} (IH : sn_at l D cyI cyO H0 b L xs P f) (hrun : am_run P f mi 0 (am_ini as (p_ml mi)) [] h = some (r, h')) (hM : p_ms[mi]? = some M) (has : as.all am_c1 = true) (hal : as.length ≤ M.2.2.1) :
    Met l M.1 (Jvm.Cond.code M.1 M.2.1 M.2.2.1 M.2.2.2.1 :: sn_gw) { frames := M.2.2.2.2.1, cells := h'.1 - h.1, slots := h'.2.1 - h.2.1, locals := M.2.2.2.2.2 } (va_Pc as (fun U => sn_H D cyI cyO H0 b L xs P h U.heap ∧ sn_K D cyI cyO H0 b L xs P U)) (fun _ _ o t => o = .returned r ∧ sn_H D cyI cyO H0 b L xs P h' t.heap) (h'.1 - h.1) (h'.2.1 - h.2.1) (fun q => H0.size ≤ q) := by
  obtain ⟨hpl, hml9, hrt9⟩ := sn_ms hM
  refine va_MetF (cc := M.2.1) (maxL := M.2.2.1) (ret := M.2.2.2.1) hpl rfl ?_
  intro p e s m args below meth c s₁ B hml hv
  obtain ⟨rfl, hH, hK⟩ := hv
  have hx := B.exec
  have hb := B.bytes
  have hr := B.returns
  have hts := atoms_spec (ws := Jvm.Cond.code M.1 M.2.1 M.2.2.1 M.2.2.2.1 :: sn_gw) B.pre
  have hown : s.vm.findClass M.1.cls = some m.cls := findClass_of_methodNamed B.named
  have hlocks := B.notSynchronized
  have hin : meth.name = M.1.name := (name_of_methodNamed B.named B.method).1
  rw [lg_entry_eq]
  rw [hml9] at hrun
  have key := IH mi 0 _ _ h h' r hrun M hM p e (headSpec (Jvm.Cond.code M.1 M.2.1 M.2.2.1 M.2.2.2.1 :: sn_gw) { frames := M.2.2.2.2.1, cells := h'.1 - h.1, slots := h'.2.1 - h.2.1, locals := M.2.2.2.2.2 }).room s m as.toArray below meth c s.heap [] _ h.1 h.2.1 (MQ below (fun _ _ o t => o = .returned r ∧ sn_H D cyI cyO H0 b L xs P h' t.heap) as.toArray s (h'.1 - h.1) (h'.2.1 - h.2.1) (fun q => H0.size ≤ q)) hx hb hml hown (fun w hw => hts w (List.mem_cons_of_mem _ hw)) (fun h9 => hin.trans h9) hK (Nat.le_refl _) (Nat.le_refl _) hH (sn_entry has hal) (by
      unfold am_ini
      rw [List.length_append, List.length_map, List.length_replicate]
      omega) (fun q hq => by cases hq) (Nat.le_refl _) (Nat.le_refl _) (Nat.le_refl _) (Nat.le_refl _) (fun H1 locs1 pc1 ls1 g1 g2 g3 => ?_)
  · rw [Nat.sub_self, Nat.sub_self] at key
    exact key
  · rcases g3 with ⟨rfl, d1, d2⟩ | ⟨v, rfl, d1, d2⟩ | ⟨v, rfl, d1, d2⟩ | ⟨v, rt, rfl, d1, d2, d3, d4⟩
    · exact W.vret hx hb (hr.trans d2) (fun t ht hW => ⟨rfl, by rw [ht]; exact g1⟩) g2 d1
    · unfold am_okr at d2
      split at d2
      · rename_i e1
        exact W.iret hx hb (hr.trans e1) (fun t ht hW => ⟨rfl, by rw [ht]; exact g1⟩) g2 d1
      · rename_i e1
        simp only [Bool.or_eq_true, beq_iff_eq] at d2
        exact W.zret hx hb (hr.trans e1) (by rcases d2 with rfl | rfl <;> decide +kernel) (fun t ht hW => ⟨rfl, by rw [ht]; exact g1⟩) g2 d1
      · cases d2
    · exact W.lret hx hb (hr.trans d2) (fun t ht hW => ⟨rfl, by rw [ht]; exact g1⟩) g2 d1
    · exact W.aret hx hb (hr.trans d2) d3 d4 (fun t ht hW => ⟨rfl, by rw [ht]; exact g1⟩) g2 d1
variable {p : Program} {e : Env} {R : Room} {s : State} {m : MethodId} {args : Array Value} {below : List Frame} {meth : Method} {c : Code} {H : Heap} {locs : List Loc} {lsA : Array Slot} {n0 s0 : Nat} {Q : State → Prop}
theorem sn_w_run {cells slots mc ms pc : Nat} {st0 rest : List Value} {r : Option Value} {h' : am_H} (hr : va_Run p l e R s m args below meth c H locs cells slots mc ms (F0 m pc lsA st0) rest (fun _ o t => o = .returned r ∧ sn_H D cyI cyO H0 b L xs P h' t.heap) (fun q => H0.size ≤ q)) (hl : ∀ q ∈ locs, H0.size ≤ q.base)
    (kk : ∀ (H1 : Heap) (locs1 : List Loc), sn_H D cyI cyO H0 b L xs P h' H1 → (∀ q ∈ locs1, H0.size ≤ q.base) → W p l e R s m args below meth c H1 locs1 (cells + mc) (slots + ms) Q (F0 m (pc + 3) lsA (r.toList ++ rest))) : W p l e R s m args below meth c H locs cells slots Q (F0 m pc lsA st0) := by
  intro T hT X
  obtain ⟨v, st₀, t, T', L9, h0, X', hL, e1, e2, ⟨hv, hb⟩, st⟩ := hr T hT X
  cases hv
  obtain ⟨t2, a1, b1⟩ := kk T'.heap (locs ++ L9) (by rw [e1]; exact hb) (fun q hq => by
    rcases List.mem_append.mp hq with h9 | h9
    · exact hl q h9
    · exact hL q h9) T' rfl X'
  exact ⟨t2, st t2 a1, b1⟩
theorem sn_blind {as : List Value} {h : am_H} : FrameBlind (va_Pc as (fun U => sn_H D cyI cyO H0 b L xs P h U.heap ∧ sn_K D cyI cyO H0 b L xs P U)) := fun a U g mk q => by
  obtain ⟨q0, q1, q2⟩ := q
  exact ⟨q0, q1, sn_K.moved (U := U.calling g mk a) (State.WarmedH.refl U) q2⟩
theorem sn_good {M : am_M} {mi : Nat} (hM : p_ms[mi]? = some M) (h : mi < 130) : GoodIn sn_gw (Jvm.Cond.code M.1 M.2.1 M.2.2.1 M.2.2.2.1 :: sn_gw) := by
  have hg : ∀ w ∈ sn_gw, w ∈ sn_gw ∧ ((w.onTables && w.keeps) = true ∨ ∃ ty, w = .arrayClass ty) := fun w hw => ⟨hw, good_of_word (List.mem_filter.mp hw).2⟩
  intro w hw
  rcases List.mem_cons.mp hw with h1 | h1
  · rw [h1]; exact hg _ (sn_codes hM h)
  · exact hg w h1
theorem sn_call {mi f n : Nat} {M : am_M} {pc cy : Nat} {i : Instr} {x : am_X} {ls : am_L} {st as rr : List Value} {h h1 : am_H} {v : Option Value} (IH : sn_at l D cyI cyO H0 b L xs P f) (hp : p_at mi pc = some (i, n, x)) (hM : p_ms[mi]? = some M) (ha : am_act P p_ty p_df (p_rt mi) pc i x ls st h = some (.inr (.inr (cy, as, rr)))) (hrun : am_run P f cy 0 (am_ini as (p_ml cy)) [] h = some (v, h1))
    (hx : p.tables.exec = Jvm.exec) (hb : c.code = M.2.1) (hml : c.maxLocals = M.2.2.1) (hown : s.vm.findClass M.1.cls = some m.cls) (hts : ∀ w ∈ sn_gw, w.before args s = true) (hK : sn_K D cyI cyO H0 b L xs P s)
    (hfr : M.2.2.2.2.1 ≤ R.frames) (hlo : M.2.2.2.2.2 ≤ R.locals) (hH : sn_H D cyI cyO H0 b L xs P h H) (hL : sn_L lsA ls) (hll : ls.length = M.2.2.1) (hl : ∀ q ∈ locs, H0.size ≤ q.base) (hn0 : n0 ≤ h.1) (hs0 : s0 ≤ h.2.1) (hRc : h1.1 - n0 ≤ R.cells) (hRs : h1.2.1 - s0 ≤ R.slots)
    (kk : ∀ (H1 : Heap) (locs1 : List Loc), sn_H D cyI cyO H0 b L xs P h1 H1 → (∀ q ∈ locs1, H0.size ≤ q.base) → W p l e R s m args below meth c H1 locs1 (h1.1 - n0) (h1.2.1 - s0) Q (F0 m (pc + 3) lsA (v.toList ++ rr))) : W p l e R s m args below meth c H locs (h.1 - n0) (h.2.1 - s0) Q (F0 m pc lsA st) := by
  obtain ⟨hdec, hlen, hck⟩ := sn_rows hM hp
  obtain ⟨hle1, hle2⟩ := sn_run_le hrun
  have hsz : lsA.size = M.2.2.1 := by rw [hL.1, hll]
  have kk' : ∀ (H1 : Heap) (locs1 : List Loc), sn_H D cyI cyO H0 b L xs P h1 H1 → (∀ q ∈ locs1, H0.size ≤ q.base) → W p l e R s m args below meth c H1 locs1 (h.1 - n0 + (h1.1 - h.1)) (h.2.1 - s0 + (h1.2.1 - h.2.1)) Q (F0 m (pc + 3) lsA (v.toList ++ rr)) := by
    intro H1 locs1 g1 g2
    rw [show h.1 - n0 + (h1.1 - h.1) = h1.1 - n0 by omega, show h.2.1 - s0 + (h1.2.1 - h.2.1) = h1.2.1 - s0 by omega]
    exact kk H1 locs1 g1 g2
  have hcyL : cy < 130 := by
    obtain ⟨e1, -, hcs⟩ := sn_act_call ha
    subst e1
    unfold p_at at hp
    split at hp
    · rename_i t ht
      have h2 := List.all_eq_true.mp sn_noL_ok t (List.mem_of_getElem? ht)
      have hm : (pc, i, n, x) ∈ t := by
        clear h2 ht
        induction t with
        | nil => cases hp
        | cons q t ih =>
          obtain ⟨q1, q2⟩ := q
          rw [List.lookup_cons] at hp
          split at hp
          · rename_i hq
            cases hp
            rw [eq_of_beq hq]
            exact List.mem_cons_self
          · exact List.mem_cons_of_mem _ (ih hp)
      have h3 := List.all_eq_true.mp h2 _ hm
      rcases hcs with ⟨idx, rfl, -⟩ | ⟨idx, a, as', rfl, -⟩ | ⟨idx, a, as', ci, z, rfl, -⟩
      · exact Nat.le_of_ble_eq_true h3
      · exact Nat.le_of_ble_eq_true h3
      · exact Nat.le_of_ble_eq_true h3
    · cases hp
  obtain ⟨e1, hrr, hcs⟩ := sn_act_call ha
  subst e1
  have hwd := sn_words hrr
  have hfc : h.1 - n0 + (h1.1 - h.1) ≤ R.cells ∧ h.2.1 - s0 + (h1.2.1 - h.2.1) ≤ R.slots := by omega
  have FX : CallFix p m c M.2.1 M.2.2.1 s args sn_gw M.1.cls := ⟨hx, hb, hml, hown, hts⟩
  have hpre : ∀ U : State, U.heap = H → s.WarmedH U.vm → va_Pc as (fun U => sn_H D cyI cyO H0 b L xs P h U.heap ∧ sn_K D cyI cyO H0 b L xs P U) as.toArray U := fun U hU hW => ⟨rfl, by rw [hU]; exact hH, sn_K.moved hW hK⟩
  rcases hcs with ⟨idx, rfl, hk, hpop, has⟩ | ⟨idx, a, as', rfl, hk, rfl, hpop, has⟩ | ⟨idx, a, as', ci, z, rfl, hk, rfl, hpop, has, hci, hz⟩
  · obtain rfl : n = 3 := of_decide_eq_true hlen
    obtain ⟨fr, f1, f2, f3⟩ := sn_pop hpop
    rw [List.append_nil] at f2
    subst f2
    simp only [sn_ck, if_neg hk, sn_ckS] at hck
    split at hck
    · cases hck
    · rename_i N hN
      simp only [Bool.and_eq_true, decide_eq_true_eq, sn_ckC, sn_notMH] at hck
      obtain ⟨⟨c1, c2, c3, c4, ⟨c5, c6⟩, c7⟩, c8, c9⟩ := hck
      have hmet := sn_met IH hrun hN has (by rw [List.length_reverse, f1]; exact c4)
      have hG := sn_good hN hcyL
      split at c9
      · refine sn_w_run (va_runS (As := fr.reverse) (rest := rr) FX hmet ⟨callB_of (rm := { frames := N.2.2.2.2.1, cells := h1.1 - h.1, slots := h1.2.1 - h.2.1, locals := N.2.2.2.2.2 }) x.2.1 hts hG rfl rfl rfl (hts _ (sn_mem_in c7)) (hts _ (sn_mem_in c9)) ⟨c5, c6, c3⟩ ⟨by show N.2.2.2.2.1 + 1 ≤ _; omega, by show 8 + (N.2.2.1 + 11) + N.2.2.2.2.2 ≤ _; omega⟩, hts _ (sn_mem_in c8)⟩ ⟨sn_blind, hpre⟩ rfl (by rw [List.length_reverse, f1]) hsz (by rw [List.reverse_reverse]; exact f3) (lv_room hwd) hdec hfc) hl kk'
      · split at c9
        · rename_i o9 i9 z9 ho9 hw9
          simp only [Bool.and_eq_true, decide_eq_true_eq] at c9
          obtain ⟨rfl, rfl, rfl⟩ := c9
          have hNw := hK.2.2.2.2.2.2.2.2.2 _ (List.mem_of_getElem? hw9) rfl
          refine sn_w_run (va_runSN (As := fr.reverse) (rest := rr) FX hmet ⟨va_cnB (rm := { frames := N.2.2.2.2.1, cells := h1.1 - h.1, slots := h1.2.1 - h.2.1, locals := N.2.2.2.2.2 }) x.2.1 hts hG rfl rfl rfl hNw (hts _ (sn_mem_in c7)) ⟨c5, c6, c3⟩ ⟨by show N.2.2.2.2.1 + 1 ≤ _; omega, by show 8 + (N.2.2.1 + 11) + N.2.2.2.2.2 ≤ _; omega⟩, hts _ (sn_mem_in c8), trivial⟩ ⟨sn_blind, hpre⟩ rfl (by rw [List.length_reverse, f1]) hsz (by rw [List.reverse_reverse]; exact f3) (lv_room hwd) hdec hfc) hl kk'
        · cases c9
  · obtain rfl : n = 3 := of_decide_eq_true hlen
    obtain ⟨fr, f1, f2, f3⟩ := sn_pop hpop
    rw [List.append_nil] at f2
    subst f2
    have has2 : (Value.ref a :: fr.reverse).all am_c1 = true := by rw [List.all_cons, has]; rfl
    simp only [sn_ck, if_neg hk, sn_ckI] at hck
    split at hck
    · cases hck
    · rename_i N hN
      simp only [Bool.and_eq_true, decide_eq_true_eq, sn_ckC, sn_notMH] at hck
      obtain ⟨⟨c1, c2, c3, c4, ⟨c5, c6⟩, c7⟩, c8, cn, cr, c9⟩ := hck
      have hmet := sn_met IH hrun hN has2 (by rw [List.length_cons, List.length_reverse, f1]; exact c4)
      have hG := sn_good hN hcyL
      obtain ⟨yN, byN, mlN, rtN, frN, loN⟩ := N
      simp only at cr
      subst cr
      split at c9
      · refine sn_w_run (va_runI (As := fr.reverse) (rest := rr) FX hmet ⟨callB_of (rm := { frames := frN, cells := h1.1 - h.1, slots := h1.2.1 - h.2.1, locals := loN }) x.2.1 hts hG rfl rfl rfl (hts _ (sn_mem_in c7)) (hts _ (sn_mem_in c9)) ⟨c5, c6, c3⟩ ⟨by show frN + 1 ≤ _; simp only at c1; omega, by show 8 + (mlN + 11) + loN ≤ _; simp only at c2; omega⟩, cn, hts _ (sn_mem_in c8)⟩ ⟨sn_blind, hpre⟩ rfl (by rw [List.length_reverse, f1]) hsz (by rw [List.reverse_reverse]; exact f3) (lv_room hwd) hdec hfc) hl kk'
      · split at c9
        · rename_i o9 i9 z9 ho9 hw9
          simp only [Bool.and_eq_true, decide_eq_true_eq] at c9
          obtain ⟨rfl, rfl, rfl⟩ := c9
          have hNw := hK.2.2.2.2.2.2.2.2.2 _ (List.mem_of_getElem? hw9) rfl
          refine sn_w_run (va_runIN (As := fr.reverse) (rest := rr) FX hmet ⟨va_cnB (rm := { frames := frN, cells := h1.1 - h.1, slots := h1.2.1 - h.2.1, locals := loN }) x.2.1 hts hG rfl rfl rfl hNw (hts _ (sn_mem_in c7)) ⟨c5, c6, c3⟩ ⟨by show frN + 1 ≤ _; simp only at c1; omega, by show 8 + (mlN + 11) + loN ≤ _; simp only at c2; omega⟩, cn, hts _ (sn_mem_in c8)⟩ ⟨sn_blind, hpre⟩ rfl (by rw [List.length_reverse, f1]) hsz (by rw [List.reverse_reverse]; exact f3) (lv_room hwd) hdec hfc) hl kk'
        · cases c9
  · obtain rfl : n = 3 := of_decide_eq_true hlen
    obtain ⟨fr, f1, f2, f3⟩ := sn_pop hpop
    rw [List.append_nil] at f2
    subst f2
    have has2 : (Value.ref a :: fr.reverse).all am_c1 = true := by rw [List.all_cons, has]; rfl
    simp only [sn_ck, if_neg hk, sn_ckV] at hck
    split at hck
    · cases hck
    · rename_i N hN
      simp only [Bool.and_eq_true, decide_eq_true_eq, sn_ckC, sn_notMH] at hck
      obtain ⟨⟨c1, c2, c3, c4, ⟨c5, c6⟩, c7⟩, c8, c9⟩ := hck
      have hmet := sn_met IH hrun hN has2 (by rw [List.length_cons, List.length_reverse, f1]; exact c4)
      have hG := sn_good hN hcyL
      obtain ⟨⟨C, T, N9⟩, hcl⟩ : ∃ r, p_cl[ci]? = some r := by
        unfold am_cls at hci
        split at hci
        · rename_i ci' fs hcell
          cases hci
          obtain ⟨-, r, hr, -⟩ := hH.at hcell
          exact ⟨r, hr⟩
        · cases hci
      split at c9
      · rw [Bool.and_eq_true] at c9
        have hsel := sn_all_at (p := fun r _ => decide (r.1 = N.1.cls) && sn_mem (.selects r.1 N.1 N.1)) c9.2 hz hcl
        simp only [Bool.and_eq_true, decide_eq_true_eq] at hsel
        refine sn_w_run (va_runV (C := C) (As := fr.reverse) (rest := rr) FX hmet ⟨callB_of (rm := { frames := N.2.2.2.2.1, cells := h1.1 - h.1, slots := h1.2.1 - h.2.1, locals := N.2.2.2.2.2 }) x.2.1 hts hG rfl rfl rfl (hts _ (sn_mem_in c7)) (hts _ (sn_mem_in c9.1)) ⟨c5, c6, c3⟩ ⟨by show N.2.2.2.2.1 + 1 ≤ _; omega, by show 8 + (N.2.2.1 + 11) + N.2.2.2.2.2 ≤ _; omega⟩, hts _ (sn_mem_in c8), hts _ (sn_mem_in hsel.2)⟩ ⟨sn_blind, sn_recv hK hH hcl hci, hpre⟩ rfl (by rw [List.length_reverse, f1]) hsz (by rw [List.reverse_reverse]; exact f3) (lv_room hwd) hdec hfc) hl kk'
      · split at c9
        · rename_i o9 i9 z9 hw9
          simp only [Bool.and_eq_true, decide_eq_true_eq] at c9
          obtain ⟨rfl, rfl, d1, d2, d3, d4⟩ := c9
          have hsel := sn_all_at (p := fun r _ => sn_mem (.selects r.1 z9 N.1)) d4 hz hcl
          have hdesc : z9.desc = N.1.desc := by rw [d2]
          refine sn_w_run (va_runU (C := C) (owner := N.1.cls) (x := z9) (As := fr.reverse) (rest := rr) FX hmet (va_cwU (rm := { frames := N.2.2.2.2.1, cells := h1.1 - h.1, slots := h1.2.1 - h.2.1, locals := N.2.2.2.2.2 }) x.2.1 hts (fun w hw => ?_) rfl rfl rfl d2 ⟨c5, c6, by rw [hdesc]; exact c3⟩ ⟨by show N.2.2.2.2.1 + 1 ≤ _; omega, by show 8 + (N.2.2.1 + 11) + N.2.2.2.2.2 ≤ _; omega⟩) ⟨sn_blind, sn_recv hK hH hcl hci, hpre⟩ rfl (by rw [List.length_reverse, f1]) hsz (by rw [List.reverse_reverse]; exact f3) (lv_room hwd) hdec hfc) hl kk'
          have hg : ∀ w ∈ sn_gw, w ∈ sn_gw ∧ ((w.onTables && w.keeps) = true ∨ ∃ ty, w = .arrayClass ty) := fun w hw => ⟨hw, good_of_word (List.mem_filter.mp hw).2⟩
          rcases List.mem_append.mp hw with h9 | h9
          · apply hg
            simp only [List.mem_cons, List.not_mem_nil, or_false] at h9
            rcases h9 with rfl | rfl | rfl | rfl | rfl
            · exact sn_in hw9 d1
            · exact sn_mem_in d3
            · exact sn_mem_in hsel
            · exact sn_mem_in c8
            · exact sn_mem_in c7
          · exact hG w h9
        · cases c9
theorem sn_main : ∀ f, sn_at l D cyI cyO H0 b L xs P f := by
  intro f
  induction f with
  | zero => intro mi pc ls st h h' r hr; cases hr
  | succ f IH =>
    intro mi pc ls st h h' r hr M hM p e R s m args below meth c H locs lsA n0 s0 Q hx hb hml hown hts hnm hK hfr hlo hH hL hll hl hn0 hs0 hRc hRs hq
    unfold am_run am_step at hr
    split at hr
    · cases hr
    · rename_i i n x hp
      obtain ⟨hdec, hlen, hck⟩ := sn_rows hM hp
      split at hr
      · cases hr
      · rename_i q hqa
        cases hr
        obtain ⟨e1, e2, e3⟩ := sn_act_ret (r := r) (h' := h') (sn_ms hM).2.2 hdec hlen hck hqa
        subst e1; subst e2
        exact hq H locs pc lsA hH hl e3
      · rename_i pc' ls' st' h1 hqa
        obtain ⟨a1, a2⟩ := sn_act_le hqa
        obtain ⟨b1, b2⟩ := sn_run_le hr
        refine sn_go hdec hlen hck hqa hx hb hml hown hts hnm hK hfr hlo hH hL hll hl hn0 hs0 (by omega) (by omega) (fun H1 locs1 ls1 g1 g2 g3 g4 => ?_)
        exact IH mi pc' ls' st' h1 h' r hr M hM p e R s m args below meth c H1 locs1 ls1 n0 s0 Q hx hb hml hown hts hnm hK hfr hlo g1 g2 g4 g3 (by omega) (by omega) hRc hRs hq
      · rename_i cy as rr hqa
        split at hr
        · cases hr
        · rename_i v h1 hc
          obtain ⟨a1, a2⟩ := sn_run_le hc
          obtain ⟨b1, b2⟩ := sn_run_le hr
          refine sn_call IH hp hM hqa hc hx hb hml hown hts hK hfr hlo hH hL hll hl hn0 hs0 (by omega) (by omega) (fun H1 locs1 g1 g2 => ?_)
          exact IH mi (pc + 3) ls _ h1 h' r hr M hM p e R s m args below meth c H1 locs1 lsA n0 s0 Q hx hb hml hown hts hnm hK hfr hlo g1 hL hll g2 (by omega) (by omega) hRc hRs hq
end Main
