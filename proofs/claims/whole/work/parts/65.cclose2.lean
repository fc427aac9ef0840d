/-! The class: closeOpenPart, makeBarrier. -/
theorem pn_pu (T : sp) (o p n0 : Nat) (hn : T.1 1 0 0 = n0 + 1) : sN (sp_pn T o p n0) 10 o p 1 = sp_pu T o p 0 := by
  unfold sp_pn sp_pu
  rw [if_pos rfl, hn, Nat.add_sub_cancel]
  refine Prod.ext (funext fun a => funext fun b => funext fun c => ?_) rfl
  simp only [sN_1]
  by_cases h10 : a = 10
  · have : ¬ a = 5 := by omega
    simp only [this, false_and, if_false]
    split <;> rfl
  · simp only [h10, false_and, if_false]
section CC2
variable {P : Nat × Nat} {fx : Nat → Prop} {mem : Nat → am_C} {K : Nat × Nat} {ad : Nat → Nat → Nat → Nat} {h : am_H} {S : sp}
theorem c_close (hv : CW P fx mem K ad h S) (hP : fx P.1) (h3 : S.1 0 0 0 ≤ 3) {o : Nat} (ho : o < S.1 0 0 0) (h40 : 0 < S.1 4 o 0) (h420 : S.1 4 o 0 ≤ 20) (hp : S.1 5 o 0 < 1000) (hn : S.1 1 0 0 + 30 < 20000) (m : Int32) : ∃ h' ad', am_E P 64 0 [some (.ref (ad 0 0 0)), some (.ref (ad 9 o 0)), some (.int m), none, none] [] h = some (some (.int (if (sp_cls o (S.1 5 o 0) m (sp_rows o (S.1 5 o 0) (S.1 4 o 0) 0 S)).1 = true then 1 else 0)), h') ∧ (∀ k i j, k ≠ 20 → ad' k i j = ad k i j) ∧ CW P fx mem (K.1 + 2, K.2 + 2017) ad' h' (sp_cls o (S.1 5 o 0) m (sp_rows o (S.1 5 o 0) (S.1 4 o 0) 0 S)).2 := by
  obtain ⟨n', hn'⟩ : ∃ n', S.1 4 o 0 = n' + 1 := ⟨S.1 4 o 0 - 1, by omega⟩
  have hqx : ¬ fx h.1 := fun x => by have := (hv.fxd x).1; omega
  have hqP : h.1 ≠ P.1 := fun e => hqx (e ▸ hP)
  have vA := hv.tmp 7 (ac_O 5 [.int 0, .int 0, .int 0, .int 0, .int 0, .int 0, .int 0])
  have cA : (ah_new h 7 (ac_O 5 [.int 0, .int 0, .int 0, .int 0, .int 0, .int 0, .int 0])).2.2 h.1 = ac_O 5 [.int 0, .int 0, .int 0, .int 0, .int 0, .int 0, .int 0] := an_same _ _ _
  have iA := c_newPart P cA (nI (S.1 5 o 0)) (nI (S.1 1 0 0))
  have vB := vA.fput (a := h.1) (Or.inr rfl) hqP (ac_O 5 [.int (nI (S.1 5 o 0)), .int (nI (S.1 1 0 0)), .int 0, .int (-6), .int 0, .int 0, .int 0])
  rw [va_up2] at vB
  have cB : (ah_put (ah_new h 7 (ac_O 5 [.int 0, .int 0, .int 0, .int 0, .int 0, .int 0, .int 0])) h.1 (ac_O 5 [.int (nI (S.1 5 o 0)), .int (nI (S.1 1 0 0)), .int 0, .int (-6), .int 0, .int 0, .int 0])).2.2 h.1 = ac_O 5 [.int (nI (S.1 5 o 0)), .int (nI (S.1 1 0 0)), .int 0, .int (-6), .int 0, .int 0, .int 0] := ah_same _ _ _
  generalize hhB : ah_put (ah_new h 7 (ac_O 5 [.int 0, .int 0, .int 0, .int 0, .int 0, .int 0, .int 0])) h.1 (ac_O 5 [.int (nI (S.1 5 o 0)), .int (nI (S.1 1 0 0)), .int 0, .int (-6), .int 0, .int 0, .int 0]) = hB at *
  generalize hhA : ah_new h 7 (ac_O 5 [.int 0, .int 0, .int 0, .int 0, .int 0, .int 0, .int 0]) = hA at *
  generalize hp0 : S.1 5 o 0 = p at *
  have start : am_E P 64 0 [some (.ref (ad 0 0 0)), some (.ref (ad 9 o 0)), some (.int m), none, none] [] h = am_E P 64 25 [some (.ref (ad 0 0 0)), some (.ref (ad 9 o 0)), some (.int m), some (.ref h.1), some (.int 0)] [] hB := by
    have sz := vA.szP ho
    rw [hp0] at sz
    simp only [r64, hhA, o10 (vA.ou ho), Option.bind_some, sz, if_true, Option.toList, List.nil_append, List.cons_append, o9 vA.x, vA.cntD, iA]
  rw [start]
  obtain ⟨fk, hk1, hk2⟩ := vB.ok ho
  obtain ⟨fv, hv1, hv2⟩ := vB.ov ho
  obtain ⟨h1, e1, v1⟩ := c_rec vB h3 (by omega) 0 (nI o) (nI p) (S.2 2 o 0) (S.2 3 o 0)
  have c1 : ¬ nI (S.1 4 o 0) ≤ 0 := nI_nle (by omega) (by omega)
  have c2 : ¬ (20 : Int32) ≤ 0 := by decide
  have e01 : ¬ (1 : Int32) = 0 := by decide
  have lk : am_iald hB (ad 10 o 0) 0 = some (S.2 2 o 0) := by
    have := iald_I (k := 0) hk1 (by decide) (by decide)
    rw [hk2 0 (by omega)] at this
    exact this
  have lw : am_iald hB (ad 11 o 0) 0 = some (S.2 3 o 0) := by
    have := iald_I (k := 0) hv1 (by decide) (by decide)
    rw [hv2 0 (by omega)] at this
    exact this
  rw [hn']
  by_cases ht : (sp_rec S 0 (nI o) (nI p) (S.2 2 o 0) (S.2 3 o 0)).1 = true
  · have hrow : sp_row S o p 0 = (true, sp_pu (sp_rec S 0 (nI o) (nI p) (S.2 2 o 0) (S.2 3 o 0)).2 o p 0) := by
      unfold sp_row
      rw [if_pos ht]
    have er : sp_rows o p (n' + 1) 0 S = sp_rows o p n' 1 (sp_pu (sp_rec S 0 (nI o) (nI p) (S.2 2 o 0) (S.2 3 o 0)).2 o p 0) := by
      conv => lhs; unfold sp_rows
      rw [hrow]
      rfl
    rw [er]
    rw [if_pos ht] at e1
    have q0 : (sp_rec S 0 (nI o) (nI p) (S.2 2 o 0) (S.2 3 o 0)).2.1 0 0 0 = S.1 0 0 0 := sr_N (by decide) (by decide)
    have q4 : (sp_rec S 0 (nI o) (nI p) (S.2 2 o 0) (S.2 3 o 0)).2.1 4 o 0 = S.1 4 o 0 := sr_N4 (by decide) ht
    have q5 : (sp_rec S 0 (nI o) (nI p) (S.2 2 o 0) (S.2 3 o 0)).2.1 5 o 0 = S.1 5 o 0 := sr_N (by decide) (by decide)
    have q1 : (sp_rec S 0 (nI o) (nI p) (S.2 2 o 0) (S.2 3 o 0)).2.1 1 0 0 = S.1 1 0 0 + 1 := sr_nrT ht
    generalize (sp_rec S 0 (nI o) (nI p) (S.2 2 o 0) (S.2 3 o 0)).2 = T at *
    have ho1 : o < T.1 0 0 0 := by omega
    have ou1 := v1.ou ho1
    have sz1 := v1.szP ho1
    have x1 := v1.x
    obtain ⟨ae, v1⟩ := v1
    obtain ⟨h2, e2, v2⟩ := c_padd v1 ho1 (q5.trans hp0) hp hqx (n0 := S.1 1 0 0) rfl hP
    have e20 : u3 ad 20 o p h.1 20 o p = h.1 := by unfold u3; rw [if_pos ⟨rfl, rfl, rfl⟩]
    have hpl : p < (sp_pn T o p (S.1 1 0 0)).1 5 o 0 := by rw [pn_5, if_pos rfl]; omega
    obtain ⟨x, y, hpt⟩ := v2.pt (o := o) (p := p) ho1 hpl
    rw [e20] at hpt
    have hpt' : h2.2.2 h.1 = ac_O 5 [.int (nI p), .int (nI (S.1 1 0 0)), .int 0, .int (-6), .int 0, .int x, .int y] := by
      rw [hpt]
      simp [sp_pn, sN_1, sN_2, sV_1, sV_2]
      rfl
    have v3 := v2.put 20 o p (fun _ => rfl) ⟨ho1, hpl⟩ (S' := sN (sp_pn T o p (S.1 1 0 0)) 10 o p 1) (fun _ => SO.n10) (c := ac_O 5 [.int (nI p), .int (nI (S.1 1 0 0)), .int 1, .int (-6), .int 0, .int x, .int y]) (fun ae => ⟨x, y, by simp [sp_pn, sN_1, sN_2, sV_1, sV_2]; exact ⟨rfl, rfl⟩⟩) rfl rfl
    rw [pn_pu T o p (S.1 1 0 0) q1, e20] at v3
    have p4 : (sp_pu T o p 0).1 4 o 0 = n' + 1 := by
      unfold sp_pu
      simp only [if_pos, sN_1, sV_1]
      simp
      omega
    have p5 : (sp_pu T o p 0).1 5 o 0 = p + 1 := by
      unfold sp_pu
      rw [sN_1, if_pos ⟨rfl, rfl, rfl⟩]
    have p10 : (sp_pu T o p 0).1 10 o p = 1 := by
      unfold sp_pu
      rw [sN_1, if_neg (by omega), sN_1, if_pos ⟨rfl, rfl, rfl⟩]
    have p0 : (sp_pu T o p 0).1 0 0 0 = T.1 0 0 0 := by
      unfold sp_pu
      simp [sN_1, sV_1]
    have p1 : (sp_pu T o p 0).1 1 0 0 = T.1 1 0 0 := by
      unfold sp_pu
      simp [sN_1, sV_1]
    obtain ⟨h4, e4, v4⟩ := c_rows (n := n' + 1) (p := p) (o := o) m (by omega) n' 1 (sp_pu T o p 0) _ (by omega) (by omega) v3 (by omega) (by omega) p4 p5 p10 (by omega)
    rw [e20] at e4
    refine ⟨h4, u3 ad 20 o p h.1, ?_, fun k i j hk => ?_, v4⟩
    · rw [← e4]
      conv => lhs; rw [hd64_25]
      simp only [r64, o10 (vB.ou ho), Option.bind_some, if_neg c1, if_neg c2, o7 cB, lk, lw, cl_of vB.x, if_true, e1, Option.toList, List.nil_append, List.cons_append, if_neg e01, o10 ou1, sz1, e2, o7 hpt']
      rfl
    · unfold u3
      rw [if_neg (fun x => hk x.1)]
  · have er : sp_cls o p m (sp_rows o p (n' + 1) 0 S) = (false, (sp_rec S 0 (nI o) (nI p) (S.2 2 o 0) (S.2 3 o 0)).2) := by
      unfold sp_rows sp_row
      rw [if_neg ht]
      rfl
    rw [er]
    rw [if_neg ht] at e1
    refine ⟨h1, ad, ?_, fun _ _ _ _ => rfl, (v1.less (fun a ha => ⟨Or.inl ha, (va_up_ne _ _ (show a ≠ h.1 from fun e => hqx (e ▸ ha))).symm⟩) hP).kup (by show K.1 + 1 ≤ K.1 + 2; omega) (by show K.2 + 7 ≤ K.2 + 2017; omega)⟩
    rw [hd64_25]
    simp only [r64, o10 (vB.ou ho), Option.bind_some, if_neg c1, if_neg c2, o7 cB, lk, lw, cl_of vB.x, if_true, e1, Option.toList, List.nil_append, List.cons_append, true_or]
    simp
end CC2
