/-! System.arraycopy from place 0 to place 0; ArrayList's empty array; casts; getClass of an array; Object(). -/
abbrev sn_gC : MethodName := ⟨"java/lang/Object", "getClass", "()Ljava/lang/Class;"⟩
def sn_globs : List Jvm.Cond := [.native arraycopyName, .static arraycopyName, .initialized "java/lang/System", .instanceMethod Lib.objectInit, .arrayClass .int, .selects "[Ljava/lang/Object;" sn_gC sn_gC, .instanceMethod sn_gC, .native sn_gC]
theorem sn_globs_ok : sn_uok sn_globs = true := by decide +kernel
theorem sn_glob (i : Nat) {w : Jvm.Cond} (h : sn_globs[i]? = some w) : w ∈ sn_gw := sn_uok_in sn_globs_ok w (List.mem_of_getElem? h)
theorem sn_objInit : Jvm.Cond.code Lib.objectInit ⟨#[0xb1]⟩ 1 none ∈ sn_gw := sn_in (ix := 64) rfl rfl
theorem sn_words {rest : List Value} (h : rest.length ≤ 4) : (rest.map fun v => v.category).sum ≤ 8 := by
  have hv : ∀ v : Value, v.category ≤ 2 := by intro v; cases v <;> simp [Value.category]
  have : ∀ r : List Value, (r.map fun v => v.category).sum ≤ 2 * r.length := by
    intro r
    induction r with
    | nil => simp
    | cons v r ih =>
      have := hv v
      simp only [List.map_cons, List.sum_cons, List.length_cons]
      omega
  have := this rest
  omega
section Cpy
variable {p : Program} {l : Launch} {e : Env} {R : Room} {s : State} {m : MethodId} {args : Array Value} {below : List Frame} {meth : Method} {c : Code} {H : Heap} {locs : List Loc} {cells slots : Nat} {Q : State → Prop}
variable {cc : ByteArray} {pc : Nat} {ls : Array Slot} {rest : List Value} {a : Nat}
variable {D : va_G} {cyI cyO : ClassId} {H0 : Heap} {b L : Nat} {xs : Nat → Int32} {P : Nat × Nat} {h : am_H}
theorem sn_w_copy {own : String} {idx a0 : Nat} {n : Int32} {h' : am_H} (hx : p.tables.exec = Jvm.exec) (hb : c.code = cc) (hml : c.maxLocals = ls.size) (hts : ∀ w ∈ sn_gw, w.before args s = true) (hown : s.vm.findClass own = some m.cls) (hK : sn_K D cyI cyO H0 b L xs P s) (hH : sn_H D cyI cyO H0 b L xs P h H) (hlk : Jvm.Cond.methodLink own idx arraycopyName ∈ sn_gw) (hv : am_copy h a0 a n = some h') (hl : ∀ q ∈ locs, H0.size ≤ q.base)
    (hframes : 1 ≤ R.frames) (hlocals : 40 ≤ R.locals) (hrest : rest.length ≤ 4) (hdg : decode cc pc = .ok (.invokestatic idx, 3))
    (k : ∀ (H1 : Heap) (locs1 : List Loc), sn_H D cyI cyO H0 b L xs P h' H1 → (∀ q ∈ locs1, H0.size ≤ q.base) → W p l e R s m args below meth c H1 locs1 cells slots Q (F0 m (pc + 3) ls rest)) : W p l e R s m args below meth c H locs cells slots Q (F0 m pc ls (.int n :: .int 0 :: .ref a :: .int 0 :: .ref a0 :: rest)) := by
  have hwd := sn_words hrest
  have hnw : nativeFrameWords "java/lang/System" "arraycopy" 5 + 11 ≤ 32 := by decide
  have hlocals' : (rest.map fun v => v.category).sum + (nativeFrameWords "java/lang/System" "arraycopy" 5 + 11) ≤ R.locals := by omega
  have z0 : (0 : Int32).toInt = 0 := rfl
  have z1 : (0 : Int32).toNatClampNeg = 0 := rfl
  have z2 : ¬ (0 : Int32) < 0 := by decide
  unfold am_copy at hv
  split at hv
  · cases hv
  · rename_i hne
    have hn3 : ¬ n < 0 := fun q => hne (Or.inr (by simpa using Int32.lt_iff_toInt_lt.mp q))
    have hab : a0 ≠ a := fun q => hne (Or.inl q)
    have hnI : n.toInt = (n.toNatClampNeg : Int) := by
      show n.toInt = ((n.toInt.toNat : Nat) : Int)
      omega
    have hloc : ∀ (L9 : List Loc), (∀ z ∈ L9, z.base = a) → H0.size ≤ a → ∀ q ∈ locs ++ L9, H0.size ≤ q.base := by
      intro L9 h8 h9 q hq
      rcases List.mem_append.mp hq with h7 | h7
      · exact hl q h7
      · rw [h8 q h7]; exact h9
    split at hv
    · rename_i n0 f hc0
      split at hv
      · rename_i n1 g hc1
        split at hv
        · rename_i hle
          cases hv
          obtain ⟨ha0, hm0⟩ := hH.at hc0
          obtain ⟨ha1, hm1⟩ := hH.at hc1
          have h4 : (0 : Int32).toNatClampNeg + n.toNatClampNeg ≤ n0 := by rw [z1]; omega
          intro T hT X
          obtain ⟨-, k0, hk0, cm0, hkk0⟩ := (hK.1.2 0 _ rfl).1 n0 (fun j => .int (f j))
          obtain ⟨-, k1, hk1, cm1, hkk1⟩ := (hK.1.2 0 _ rfl).1 n1 (fun j => .int (g j))
          obtain ⟨vm', X', step⟩ := X.arraycopy hx hown (hts _ hlk) (hts _ (sn_glob 0 rfl)) (hts _ (sn_glob 1 rfl)) (hts _ (sn_glob 2 rfl)) (src := a0) (dst := a) (cs := vp_cell cyI (n0, .inl f)) (cd := vp_cell cyI (n1, .inl g)) (srcPos := 0) (destPos := 0) (n := n) (by rw [hT]; exact hm0) (by rw [hT]; exact hm1)
            (fun _ h => by cases h) (fun _ h => by cases h) (fun h => by cases h) (fun h => by cases h) hk0 hk1 hkk0 hkk1 (by rfl) z2 z2 hn3
            (by rw [z0, hnI]; show ¬ _ > ((arrV cyI n0 (fun j => .int (f j))).slots.size : Int); rw [arrV_size]; omega)
            (by rw [z0, hnI]; show ¬ _ > ((arrV cyI n1 (fun j => .int (g j))).slots.size : Int); rw [arrV_size]; omega)
            (fun vm₁ _ i hi => by
              have e : (vp_cell cyI (n0, .inl f)).slots.getD ((0 : Int32).toNatClampNeg + i) .null = .int (f ((0 : Int32).toNatClampNeg + i)) := by
                show (arrV cyI n0 (fun j => .int (f j))).slots.getD _ _ = _
                rw [Array.getD_eq_getD_getElem?, arrV_read _ _ (by omega)]
                rfl
              refine ⟨?_, ?_⟩
              · rw [e]; rfl
              · rw [e]; exact trivial)
            (g := F0 m pc ls (.int n :: .int 0 :: .ref a :: .int 0 :: .ref a0 :: rest)) rfl (by rw [hml]) (rest := rest) rfl (by rw [hb]; exact hdg) hframes (by show 2 * 0 + _ + _ ≤ _; omega)
          have e1 : copied (vp_cell cyI (n0, .inl f)) (vp_cell cyI (n1, .inl g)) 0 0 n = vp_cell cyI (n1, .inl (va_cpy f g 0 0 n.toNatClampNeg)) := va_copied (fun z => .int z) cyI cyI f g h4
          rw [e1] at X' step
          have hla : a < H.size := (Array.getElem?_eq_some_iff.mp hm1).1
          have hheap : ((T.setVm vm').setCell a (vp_cell cyI (n1, .inl (va_cpy f g 0 0 n.toNatClampNeg)))).heap = H.setIfInBounds a (vp_cell cyI (n1, .inl (va_cpy f g 0 0 n.toNatClampNeg))) := by rw [← hT]; rfl
          have oq : ∀ q : Nat, q ≠ a → (H.setIfInBounds a (vp_cell cyI (n1, .inl (va_cpy f g 0 0 n.toNatClampNeg))))[q]? = H[q]? := fun q hq => by simp [Array.getElem?_setIfInBounds, Ne.symm hq]
          obtain ⟨t, a1, b1⟩ := k _ _ (sn_put hH ha1 (by simp) oq ⟨ha1, by simp [Array.getElem?_setIfInBounds, hla]⟩ (fun ci fs h9 => by rw [hc1] at h9; cases h9) (fun n' f' h9 => by cases h9)) (hloc _ (fun z hz => by
            obtain ⟨z', -, hz'⟩ := List.mem_map.mp hz
            rw [← hz']) ha1) _ hheap X'
          exact ⟨t, step t a1, b1⟩
        · cases hv
      · cases hv
    · rename_i n0 f hc0
      split at hv
      · rename_i n1 g hc1
        split at hv
        · rename_i hle
          cases hv
          obtain ⟨ha0, hm0⟩ := hH.at hc0
          obtain ⟨ha1, hm1⟩ := hH.at hc1
          have h4 : (0 : Int32).toNatClampNeg + n.toNatClampNeg ≤ n0 := by rw [z1]; omega
          intro T hT X
          obtain ⟨-, k0, hk0, cm0, hkk0⟩ := (hK.1.2 1 _ rfl).1 n0 (fun j => va_rf (f j))
          obtain ⟨-, k1, hk1, cm1, hkk1⟩ := (hK.1.2 1 _ rfl).1 n1 (fun j => va_rf (g j))
          obtain ⟨vm', X', step⟩ := X.arraycopy hx hown (hts _ hlk) (hts _ (sn_glob 0 rfl)) (hts _ (sn_glob 1 rfl)) (hts _ (sn_glob 2 rfl)) (src := a0) (dst := a) (cs := vp_cell cyO (n0, .inr (.inr (.inr (.inr f))))) (cd := vp_cell cyO (n1, .inr (.inr (.inr (.inr g))))) (srcPos := 0) (destPos := 0) (n := n) (by rw [hT]; exact hm0) (by rw [hT]; exact hm1)
            (fun _ h => by cases h) (fun _ h => by cases h) (fun h => by cases h) (fun h => by cases h) hk0 hk1 hkk0 hkk1 (by rfl) z2 z2 hn3
            (by rw [z0, hnI]; show ¬ _ > ((arrV cyO n0 (fun j => va_rf (f j))).slots.size : Int); rw [arrV_size]; omega)
            (by rw [z0, hnI]; show ¬ _ > ((arrV cyO n1 (fun j => va_rf (g j))).slots.size : Int); rw [arrV_size]; omega)
            (fun vm₁ hal i hi => by
              have e : (vp_cell cyO (n0, .inr (.inr (.inr (.inr f))))).slots.getD ((0 : Int32).toNatClampNeg + i) .null = va_rf (f ((0 : Int32).toNatClampNeg + i)) := by
                show (arrV cyO n0 (fun j => va_rf (f j))).slots.getD _ _ = _
                rw [Array.getD_eq_getD_getElem?, arrV_read _ _ (by omega)]
                rfl
              rw [e]
              cases hy : f ((0 : Int32).toNatClampNeg + i) with
              | none => exact ⟨rfl, trivial⟩
              | some y =>
                obtain ⟨cellV, g1, g2, ⟨kC, hkC⟩, hasg⟩ := sn_any hK hH (hH.2.2.2.2 a0 n0 f hc0 _ y hy)
                obtain ⟨kA, comp, r1, r2, r3, -⟩ := (hK.1.2 1 _ rfl).2
                cases hk1.symm.trans r1
                cases hkk1.symm.trans r2
                obtain ⟨kE, hkE, -⟩ := Vm.findClass_spec r3
                obtain ⟨kC', hkC', -⟩ := hal.2.2 _ _ hkC
                obtain ⟨kE', hkE', -⟩ := hal.2.2 _ _ hkE
                refine ⟨rfl, cellV, (show T.heap[y]? = some cellV by rw [hT]; exact g1), (fun q h => by rw [h] at g2; cases g2), ⟨kC', hkC'⟩, ?_, ?_⟩
                · exact ⟨kE', hkE'⟩
                · show vm₁.assignable _ _ = true
                  rw [hal.assignable]
                  exact hasg _ r3)
            (g := F0 m pc ls (.int n :: .int 0 :: .ref a :: .int 0 :: .ref a0 :: rest)) rfl (by rw [hml]) (rest := rest) rfl (by rw [hb]; exact hdg) hframes (by show 2 * 0 + _ + _ ≤ _; omega)
          have e1 : copied (vp_cell cyO (n0, .inr (.inr (.inr (.inr f))))) (vp_cell cyO (n1, .inr (.inr (.inr (.inr g))))) 0 0 n = vp_cell cyO (n1, .inr (.inr (.inr (.inr (va_cpy f g 0 0 n.toNatClampNeg))))) := by
            rw [vp_cell_q, vp_cell_q, vp_cell_q]
            exact va_copied (fun z => va_rf z) cyO cyO f g h4
          rw [e1] at X' step
          have hla : a < H.size := (Array.getElem?_eq_some_iff.mp hm1).1
          have hheap : ((T.setVm vm').setCell a (vp_cell cyO (n1, .inr (.inr (.inr (.inr (va_cpy f g 0 0 n.toNatClampNeg))))))).heap = H.setIfInBounds a (vp_cell cyO (n1, .inr (.inr (.inr (.inr (va_cpy f g 0 0 n.toNatClampNeg)))))) := by rw [← hT]; rfl
          have oq : ∀ q : Nat, q ≠ a → (H.setIfInBounds a (vp_cell cyO (n1, .inr (.inr (.inr (.inr (va_cpy f g 0 0 n.toNatClampNeg)))))))[q]? = H[q]? := fun q hq => by simp [Array.getElem?_setIfInBounds, Ne.symm hq]
          obtain ⟨t, a1, b1⟩ := k _ _ (sn_put hH ha1 (by simp) oq ⟨ha1, by simp [Array.getElem?_setIfInBounds, hla]⟩ (fun ci fs h9 => by rw [hc1] at h9; cases h9) (fun n' f' h9 j y hy => by
            cases h9
            by_cases hj : 0 ≤ j ∧ j < 0 + n.toNatClampNeg
            · unfold va_cpy at hy
              rw [if_pos hj] at hy
              exact hH.2.2.2.2 a0 n0 f hc0 _ y hy
            · unfold va_cpy at hy
              rw [if_neg hj] at hy
              exact hH.2.2.2.2 a n1 g hc1 _ y hy)) (hloc _ (fun z hz => by
            obtain ⟨z', -, hz'⟩ := List.mem_map.mp hz
            rw [← hz']) ha1) _ hheap X'
          exact ⟨t, step t a1, b1⟩
        · cases hv
      · cases hv
    · cases hv
theorem sn_w_stat {own : String} {idx : Nat} (hx : p.tables.exec = Jvm.exec) (hb : c.code = cc) (hts : ∀ w ∈ sn_gw, w.before args s = true) (hown : s.vm.findClass own = some m.cls) (hK : sn_K D cyI cyO H0 b L xs P s) (hH : sn_H D cyI cyO H0 b L xs P h H) (hlk : Jvm.Cond.fieldLink own idx "java/util/ArrayList" "DEFAULTCAPACITY_EMPTY_ELEMENTDATA" "[Ljava/lang/Object;" ∈ sn_gw) (hdg : decode cc pc = .ok (.getstatic idx, 3))
    (k : W p l e R s m args below meth c H locs cells slots Q (F0 m (pc + 3) ls (.ref P.1 :: rest))) : W p l e R s m args below meth c H locs cells slots Q (F0 m pc ls rest) := by
  obtain ⟨cf, kf, fi, f, a, cell, h1, h2, h3, h4, h5, h6, h7, h8⟩ := hK.2.2.2.1
  exact W.gets hx hb hown (hts _ hlk) h1 h2 h3 h4 (by rw [hH.2.2.1 a (Array.getElem?_eq_some_iff.mp h5).1]; exact h5) (fun e => by rw [e] at h6; cases h6) h7 rfl hdg k
theorem sn_recv {ci : Nat} {C : String} {T : u_T} {N : Nat} (hK : sn_K D cyI cyO H0 b L xs P s) (hH : sn_H D cyI cyO H0 b L xs P h H) (hc : p_cl[ci]? = some (C, T, N)) (ha : am_cls h a = some ci) : ∃ cell : Cell, H[a]? = some cell ∧ cell.vm.isStatics = false ∧ s.vm.findClass C = some cell.cls := by
  unfold am_cls at ha
  split at ha
  · rename_i ci' fs hcell
    cases ha
    exact va_recv (q0 := 0) hK.1 (sn_one (q := (a, .inr (ci, fs))) (hH.at hcell).2) hc rfl
  · cases ha
theorem sn_w_cast {own : String} {idx ci : Nat} {C : String} {T : u_T} {N : Nat} (hx : p.tables.exec = Jvm.exec) (hb : c.code = cc) (hts : ∀ w ∈ sn_gw, w.before args s = true) (hown : s.vm.findClass own = some m.cls) (hK : sn_K D cyI cyO H0 b L xs P s) (hH : sn_H D cyI cyO H0 b L xs P h H) (hc : p_cl[ci]? = some (C, T, N)) (hlk : Jvm.Cond.classLink own idx C ∈ sn_gw) (ha : am_cls h a = some ci) (hdg : decode cc pc = .ok (.checkcast idx, 3))
    (k : W p l e R s m args below meth c H locs cells slots Q (F0 m (pc + 3) ls (.ref a :: rest))) : W p l e R s m args below meth c H locs cells slots Q (F0 m pc ls (.ref a :: rest)) :=
  va_castS hx hb hown (hts _ hlk) (hK.1.1 ci _ hc).2 (sn_recv hK hH hc ha) hdg k
theorem sn_w_getC {own : String} {idx n : Nat} {f : Nat → Option Nat} (hx : p.tables.exec = Jvm.exec) (hb : c.code = cc) (hml : c.maxLocals = ls.size) (hts : ∀ w ∈ sn_gw, w.before args s = true) (hown : s.vm.findClass own = some m.cls) (hK : sn_K D cyI cyO H0 b L xs P s) (hH : sn_H D cyI cyO H0 b L xs P h H) (hlk : Jvm.Cond.methodLink own idx sn_gC ∈ sn_gw) (ha : h.2.2 a = ac_R n f) (hframes : 1 ≤ R.frames) (hlocals : 40 ≤ R.locals) (hrest : rest.length ≤ 4) (hdg : decode cc pc = .ok (.invokevirtual idx, 3))
    (k : W p l e R s m args below meth c H locs cells slots Q (F0 m (pc + 3) ls (.ref P.2 :: rest))) : W p l e R s m args below meth c H locs cells slots Q (F0 m pc ls (.ref a :: rest)) := by
  have hwd := sn_words hrest
  refine va_getC hx hb hml hown (hts _ hlk) (va_Dc.use hK.2.2.2.2.2.2.2.2.1) (hts _ (sn_glob 5 rfl)) (hts _ (sn_glob 6 rfl)) (hts _ (sn_glob 7 rfl)) hK.2.2.2.2.2.2.1 ⟨_, (hH.at ha).2, rfl, ?_⟩ hframes (by omega) hdg k
  obtain ⟨_, _, -, -, -, h9⟩ := (hK.1.2 1 _ rfl).2
  exact h9
end Cpy
