/-! THE CLAIM OUT OF ONE WALK OF THE LAW'S BODY. Your part is whole_start (and what it stands on); all else here is the same for every law, but numbers. -/
def R_law : String := "TwoStepOutputsLaw"
def lw_P (b : Addr) (xs : List Int32) (args : Array Value) (s : State) : Prop := args = #[.ref b] ∧ s.IntsAt b xs ∧ xs.length ≤ 256 ∧ (Jvm.Cond.and given_1 narrow_1).before args s = true
def lw_Q (_ : Array Value) (s : State) (o : Outcome) (t : State) : Prop := o = .returned (some (.int 1)) ∧ Framed s o t [] 600000 7302250
def lw_Z (below : List Frame) (a : Array Value) (s : State) : State → Prop := fun t => ∃ o, t.status = .running ∧ Ended t below o ∧ lw_Q a s o t
/-- the law's own end, with 1 on the stack, nothing written that was there before, its room as the claim has it -/
theorem lw_ret {p : Program} {l : Launch} {e : Env} {s : State} {m : MethodId} {below : List Frame} {meth : Method} {c : Code} {b : Nat} (hx : p.tables.exec = Jvm.exec) (hb : c.code = code) (hr : meth.sig.returnType = ret) (hlocks : meth.locks = false) {pc : Nat} {H : Heap} {ls : Array Slot} (hdg : decode code pc = .ok (.ireturn, 1)) : W p l e room_1 s m #[Value.ref b] below meth c H [] 600000 7302250 (lw_Z below #[Value.ref b] s) (F0 m pc ls [.int 1]) := by
  intro T hT X
  obtain ⟨fs, hret, hrun, hended, hW, hframe⟩ := X.leave (v := some (.int 1)) (hlocks := hlocks) (fun h => by rw [hr] at h; cases h)
  have hmeth' : T.vm.method? m = some meth := X.method'
  refine ⟨T.setFrames fs, ?_, .returned (some (.int 1)), hrun, hended, rfl, ⟨_, rfl⟩, hW, hframe⟩
  jvm_step X.here [X.here.top, hx, hb, hdg, hmeth', hr, ret, narrow_b1]
  (try refine ⟨rfl, ?_⟩); (try refine ⟨rfl, ?_⟩)
  first | (intro acts; rw [hret _ acts rfl rfl rfl]) | rw [hret _ _ rfl rfl rfl]
  exact Steps.refl _
/-- what holds at the law's entry: the machine, the code, the tables' words (any of lw_tbl by 'hts w (by decide +kernel)'), the script of L ints xs at the cell b, what the Statement gives of the start (any of its parts by flat_of_before) -/
def lw_At (p : Program) (s : State) (m : MethodId) (meth : Method) (c : Code) (b L : Nat) (xs : Nat → Int32) : Prop :=
  p.tables.exec = Jvm.exec ∧ c.code = code ∧ meth.sig.returnType = ret ∧ c.maxLocals = 4 ∧ s.vm.findClass R_law = some m.cls ∧ (∀ w ∈ lw_tbl, w.before #[Value.ref b] s = true) ∧ va_X b L xs s s.heap ∧ b < s.heap.size ∧ meth.locks = false ∧ (Jvm.Cond.and given_1 narrow_1).before #[Value.ref b] s = true
/-- the abstract heap at the law's start: the script, ArrayList's empty array -/
def sn_h0 (n b L : Nat) (xs : Nat → Int32) (P : Nat × Nat) : am_H := (n, 0, va_up (va_up (fun _ => ac_N) P.1 ac_E) b (ac_S L xs))
theorem sn_kinds {s : State} {cell : Cell} (h1 : s.isArrayOf cell .int) (h2 : s.isArrayOf cell (.object "java/lang/Object")) : False := by
  obtain ⟨-, k0, hk0, cm0, hkk0⟩ := h1
  obtain ⟨-, k1, hk1, cm1, hkk1⟩ := h2
  cases hk0.symm.trans hk1
  have := hkk0.symm.trans hkk1
  cases this
set_option maxHeartbeats 4000000 in
theorem sn_start {p : Program} {e : Env} {s : State} {m : MethodId} {below : List Frame} {meth : Method} {c : Code} (l : Launch) {b L : Nat} {xs : Nat → Int32} (C0 : lw_At p s m meth c b L xs)
    (hE : ∀ (P : Nat × Nat) (n : Nat), b < n → P.1 < n → b ≠ P.1 → ∃ h' : am_H, am_E P 130 0 [some (.ref b), none, none, none] [] (sn_h0 n b L xs P) = some (some (.int 1), h') ∧ h'.1 ≤ n + 600000 ∧ h'.2.1 ≤ 7302250) :
    W p l e room_1 s m #[Value.ref b] below meth c s.heap [] 0 0 (lw_Z below #[Value.ref b] s) (entryFrame m ([Value.ref b] : List Value).toArray 4) := by
  obtain ⟨hx, hb, hr, hml, hown, hts, hX, hbl, hlocks, hgv⟩ := id C0
  have hts' : ∀ w ∈ sn_gw, w.before #[Value.ref b] s = true := fun w hw => hts w (List.mem_filter.mp hw).1
  have hs := flat_of_before _ hgv
  obtain ⟨c0, i0, k0⟩ := u_known (C := pR0) (T := pT0) (N := 3) (n := 3) hts (fun w hw => (List.mem_filter.mp (sn_uok_in sn_u0 w hw)).1) (hts (.instantiable pR0 3) (by decide +kernel))
  obtain ⟨c1, i1, k1⟩ := u_known (C := pR1) (T := pT1) (N := 3) (n := 3) hts (fun w hw => (List.mem_filter.mp (sn_uok_in sn_u1 w hw)).1) (hts (.instantiable pR1 3) (by decide +kernel))
  obtain ⟨c2, i2, k2⟩ := u_known (C := pR2) (T := pT2) (N := 3) (n := 3) hts (fun w hw => (List.mem_filter.mp (sn_uok_in sn_u2 w hw)).1) (hts (.instantiable pR2 3) (by decide +kernel))
  obtain ⟨c3, i3, k3⟩ := u_known (C := pR3) (T := pT3) (N := 3) (n := 3) hts (fun w hw => (List.mem_filter.mp (sn_uok_in sn_u3 w hw)).1) (hts (.instantiable pR3 3) (by decide +kernel))
  obtain ⟨c4, i4, k4⟩ := u_known (C := pR4) (T := pT4) (N := 10) (n := 10) hts (fun w hw => (List.mem_filter.mp (sn_uok_in sn_u4 w hw)).1) (hts (.instantiable pR4 10) (by decide +kernel))
  obtain ⟨c5, i5, k5⟩ := u_known (C := pR5) (T := pT5) (N := 7) (n := 7) hts (fun w hw => (List.mem_filter.mp (sn_uok_in sn_u5 w hw)).1) (hts (.instantiable pR5 7) (by decide +kernel))
  obtain ⟨c6, i6, k6⟩ := u_known (C := pR6) (T := pT6) (N := 3) (n := 3) hts (fun w hw => (List.mem_filter.mp (sn_uok_in sn_u6 w hw)).1) (hts (.instantiable pR6 3) (by decide +kernel))
  obtain ⟨c7, i7, k7⟩ := u_known (C := pR7) (T := pT7) (N := 4) (n := 4) hts (fun w hw => (List.mem_filter.mp (sn_uok_in sn_u7 w hw)).1) (hts (.instantiable pR7 4) (by decide +kernel))
  obtain ⟨c8, i8, k8⟩ := u_known (C := pR8) (T := pT8) (N := 9) (n := 9) hts (fun w hw => (List.mem_filter.mp (sn_uok_in sn_u8 w hw)).1) (hts (.instantiable pR8 9) (by decide +kernel))
  obtain ⟨c9, i9, k9⟩ := u_known (C := pR9) (T := pT9) (N := 34) (n := 34) hts (fun w hw => (List.mem_filter.mp (sn_uok_in sn_u9 w hw)).1) (hts (.instantiable pR9 34) (by decide +kernel))
  obtain ⟨D, hKc⟩ : ∃ (D : va_G), ∀ (k : Nat) (q : vw_C), p_cl[k]? = some q → u_Kn s q.1 q.2.1 q.2.2 (D.1 k) (D.2 k) := by
    refine ⟨(fun k => if k = 0 then c0 else if k = 1 then c1 else if k = 2 then c2 else if k = 3 then c3 else if k = 4 then c4 else if k = 5 then c5 else if k = 6 then c6 else if k = 7 then c7 else if k = 8 then c8 else c9, fun k => if k = 0 then i0 else if k = 1 then i1 else if k = 2 then i2 else if k = 3 then i3 else if k = 4 then i4 else if k = 5 then i5 else if k = 6 then i6 else if k = 7 then i7 else if k = 8 then i8 else i9), ?_⟩
    intro k q hq
    match k, hq with
    | 0, hq => cases hq; exact k0
    | 1, hq => cases hq; exact k1
    | 2, hq => cases hq; exact k2
    | 3, hq => cases hq; exact k3
    | 4, hq => cases hq; exact k4
    | 5, hq => cases hq; exact k5
    | 6, hq => cases hq; exact k6
    | 7, hq => cases hq; exact k7
    | 8, hq => cases hq; exact k8
    | 9, hq => cases hq; exact k9
    | k + 10, hq => simp [p_cl] at hq
  obtain ⟨cyI, kI, compI, e1, e2, e3⟩ := Cond.arrayClass_spec (hts (.arrayClass .int) (by decide +kernel))
  obtain ⟨comp, cyO, kO, f1, f2, f3, f4, f5⟩ := Cond.arrayOver_spec (hts (.arrayOver (.object "java/lang/Object")) (by decide +kernel))
  have hKK : va_K D p_cl [(cyI, .int), (cyO, .object "java/lang/Object")] s := by
    refine ⟨hKc, fun k q hq => ?_⟩
    match k, hq with
    | 0, hq => cases hq; exact ⟨fun N z => ⟨(fun k h => by cases h), kI, e2, compI, e3⟩, e1⟩
    | 1, hq => cases hq; exact ⟨fun N z => ⟨(fun k h => by cases h), kO, f3, comp, f4⟩, kO, comp, f3, f4, f1, f5⟩
    | k + 2, hq => simp at hq
  have hA : ∀ a : Nat, a < s.heap.size → ¬ (fun q => s.heap.size ≤ q) a := fun a ha h9 => by simp only at h9; omega
  obtain ⟨E0, hE0, hT⟩ := va_Tof (tm := .static "java/util/ArrayList" "DEFAULTCAPACITY_EMPTY_ELEMENTDATA" "[Ljava/lang/Object;") (ty := .object "java/lang/Object") (N := 0) (f := fun _ => .null) (A := fun q => s.heap.size ≤ q) (by decide) (hs (.arrayOf (.static "java/util/ArrayList" "DEFAULTCAPACITY_EMPTY_ELEMENTDATA" "[Ljava/lang/Object;") (.object "java/lang/Object")) (by decide +kernel)) (va_eqt (hs (.eq (.length (.static "java/util/ArrayList" "DEFAULTCAPACITY_EMPTY_ELEMENTDATA" "[Ljava/lang/Object;")) (.int 0)) (by decide +kernel))) (fun j hj => absurd hj (Nat.not_lt_zero _)) hA
  obtain ⟨mi, hMi⟩ := va_Mi.of (hs (.isRef (.mirror "[Ljava/lang/Object;")) (by decide +kernel))
  have hZ := va_Zref (hts (.laysStatic "java/util/ArrayList" "DEFAULTCAPACITY_EMPTY_ELEMENTDATA" "[Ljava/lang/Object;") (by decide +kernel)) (hts (.initialized "java/util/ArrayList") (by decide +kernel)) hE0 hA
  obtain ⟨cellE, t1, t2, t3, t4, t5, t6⟩ := hT
  have hE0l : E0 < s.heap.size := (Array.getElem?_eq_some_iff.mp t1).1
  have hK : sn_K D cyI cyO s.heap b L xs (E0, mi) s := ⟨hKK, hX, hbl, hZ, ⟨cellE, t1, t2, t5⟩, hE0l, hMi, va_AO.of (hts (.arrayOver (.object "java/lang/Object")) (by decide +kernel)), va_Dc.of (hts (.declares sn_gC) (by decide +kernel)), fun w hw hN => by
    have hz := hts w hw
    cases w <;> first | (exact va_Nw.of rfl hz) | (cases hN)⟩
  have hne : b ≠ E0 := by
    rintro rfl
    obtain ⟨scr, g1, g2, -⟩ := hX
    cases g1.symm.trans t1
    exact sn_kinds g2 t2
  obtain ⟨h', hrun, hc1, hc2⟩ := hE (E0, mi) s.heap.size hbl hE0l hne
  obtain ⟨f, hf⟩ := am_E_ex hrun
  have hH : sn_H D cyI cyO s.heap b L xs (E0, mi) (sn_h0 s.heap.size b L xs (E0, mi)) s.heap := by
    refine ⟨rfl, Nat.le_refl _, fun _ _ => rfl, fun a => ?_, fun a n f h9 => ?_⟩
    · by_cases ha : a = b
      · subst ha
        have : (sn_h0 s.heap.size a L xs (E0, mi)).2.2 a = ac_S L xs := by simp [sn_h0, va_up]
        rw [this]
        exact ⟨rfl, rfl, rfl⟩
      · by_cases hb2 : a = E0
        · have : (sn_h0 s.heap.size b L xs (E0, mi)).2.2 a = ac_E := by simp [sn_h0, va_up, ha, hb2]; intro h9; exact absurd (hb2.trans h9) ha
          rw [this]
          exact hb2
        · have : (sn_h0 s.heap.size b L xs (E0, mi)).2.2 a = ac_N := by simp [sn_h0, va_up, ha, hb2]
          rw [this]
          exact trivial
    · exfalso
      simp only [sn_h0, va_up] at h9
      split at h9
      · cases h9
      · split at h9 <;> cases h9
  rw [lg_entry_eq]
  have hlv : sn_L ((lg_sl [.ref b] ++ List.replicate (4 - (lg_sl [.ref b]).length) Slot.unset).toArray) [some (.ref b), none, none, none] := sn_entry (as := [.ref b]) (n := 4) rfl (Nat.le_of_ble_eq_true rfl)
  have key := sn_main (l := l) (D := D) (cyI := cyI) (cyO := cyO) (H0 := s.heap) (b := b) (L := L) (xs := xs) (P := (E0, mi)) f 130 0 _ _ _ h' _ hf _ rfl p e room_1 s m #[Value.ref b] below meth c s.heap [] _ s.heap.size 0 (lw_Z below #[Value.ref b] s) hx hb hml hown hts' (fun h9 => absurd h9 (by decide)) hK (by decide) (by decide) hH hlv rfl (fun q hq => by cases hq) (Nat.le_refl _) (Nat.le_refl _) (by show h'.1 - s.heap.size ≤ 600000; omega) (by show h'.2.1 - 0 ≤ 7302250; omega) (fun H1 locs1 pc1 ls1 g1 g2 g3 => ?_)
  · rw [show (sn_h0 s.heap.size b L xs (E0, mi)).1 - s.heap.size = 0 from Nat.sub_self _, show (sn_h0 s.heap.size b L xs (E0, mi)).2.1 - 0 = 0 from rfl] at key
    exact key
  · refine va_forget (fun q hq => g2 q hq) ?_
    refine W.widen (k := 600000) (n := 7302250) (by omega) (by omega) ?_
    rcases g3 with ⟨h9, -⟩ | ⟨v, h9, d1, -⟩ | ⟨v, h9, -⟩ | ⟨v, rt, h9, -, -, -, d4⟩
    · cases h9
    · cases h9
      exact lw_ret hx hb hr hlocks d1
    · cases h9
    · cases h9
      rcases d4 with d4 | ⟨a, d4⟩ <;> cases d4
