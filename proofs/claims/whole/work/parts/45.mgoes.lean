/-! The model: parts are given up; give. -/
theorem goes_le {o : Nat} {m : Int32} : ∀ (c p w : Nat) (S : sp) (w' : Nat), (∀ q, q < p + c → S.1 10 o q ≤ 20) → (sp_goes o m c p w S).1 = some w' → w' ≤ w + 20 * c := by
  intro c
  induction c with
  | zero => intro p w S w' _ h; cases h; omega
  | succ c ih =>
    intro p w S w' hq h
    unfold sp_goes at h
    split at h
    · split at h
      · rename_i ht
        have h9 := hq p (by omega)
        have := ih _ _ _ _ (fun q hq2 => by rw [sN_1, if_neg (by omega), sr_N (by decide) (by decide)]; exact hq q (by omega)) h
        omega
      · cases h
    · have := ih _ _ _ _ (fun q hq2 => hq q (by omega)) h
      omega
section MGo
variable {M n s : Nat} {mem : Nat → am_C}
theorem MS.pdn {h : am_H} {S : sp} {pd : Int32} (hs : MS M n s mem pd h S) (x : Int32) : ∃ f F, MV M n s mem h f F ∧ f 33 = pd ∧ MS M n s mem x (ah_put h M (ac_O 9 (mo M (va_up f 33 x)))) S := by
  obtain ⟨f, F, hv, hf, hF, hpd⟩ := hs
  refine ⟨f, F, hv, hpd, _, F, hv.p 33 x, ?_, hF, by simp [va_up]⟩
  obtain ⟨f1, f2, f3, f4, f5, f6, f7, f8, f9, f10⟩ := hf
  simp [m_f, va_up, f1, f2, f3, f4, f5, f6, f7, f8, f9, f10]
theorem k_goesL (P : Nat × Nat) {o : Nat} {m m' : Int32} (hmm : m' = m ∨ (m' = 0 ∧ m < 0)) : ∀ (c p w : Nat) (S : sp) (h : am_H) (pd : Int32) (l5 : Option Value), MS M n s mem pd h S → JN S → o < S.1 0 0 0 → p + c = S.1 5 o 0 → S.2 0 0 0 < m →
    ∃ h', MS M n s mem (pd + nI ((sp_goes o m c p w S).2.1 1 0 0 - S.1 1 0 0)) h' (sp_goes o m c p w S).2 ∧ am_E P 94 5 [some (.ref M), some (.int (nI o)), some (.int m'), some (.int (nI w)), some (.int (nI p)), l5] [] h = some (some (.int (sp_ans (sp_goes o m c p w S)).1), h') := by
  intro c
  induction c with
  | zero =>
    intro p w S h pd l5 hs hj ho hp hm
    have h3 := hj.1.2.2.1
    have hgv := hj.1.1.2.2.1 o (by omega)
    obtain ⟨f, F, hv, hf, hF, -⟩ := id hs
    obtain ⟨g1, g2, g3, g4, g5, g6⟩ := hF.1 o (by omega)
    refine ⟨h, by show MS M n s mem (pd + nI (S.1 1 0 0 - S.1 1 0 0)) h S; rw [pd_z]; exact hs, ?_⟩
    have c1 : nI (S.1 5 o 0) ≤ nI p := nI_le (by omega) (by omega)
    rw [hd94_5]
    simp only [r94, hv.g, mo_g, Option.bind_some, hv.ld 5 (by decide) (by decide) (q := o) (show o < 3 by omega), g3, if_pos c1, sp_goes, sp_ans]
  | succ c ih =>
    intro p w S h pd l5 hs hj ho hp hm
    have h3 := hj.1.2.2.1
    have ho3 : o < 3 := by omega
    have hgv := hj.1.1.2.2.1 o (by omega)
    have hpg : p < S.1 5 o 0 := by omega
    have hnr := hj.nr
    obtain ⟨f, F, hv, hf, hF, -⟩ := id hs
    obtain ⟨g1, g2, g3, g4, g5, g6⟩ := hF.1 o ho3
    have c1 : ¬ nI (S.1 5 o 0) ≤ nI p := nI_ge (by omega) (by omega)
    obtain ⟨x1, x2, x3⟩ := co_st hj ho hpg
    have kst := k_stateOf P hs (by omega) (nI o) (nI p)
    have kmk := k_markOf P hs (by omega) (nI o) (nI p)
    rw [x1] at kst
    have hiP := hj.1.2.2.2.2.1 o p ho hpg
    have go1 : am_E P 94 5 [some (.ref M), some (.int (nI o)), some (.int m'), some (.int (nI w)), some (.int (nI p)), l5] [] h = am_E P 94 25 [some (.ref M), some (.int (nI o)), some (.int m'), some (.int (nI w)), some (.int (nI p)), some (.int (nI (S.1 11 o p)))] [] h := by
      rw [hd94_5]
      simp only [r94, hv.g, mo_g, Option.bind_some, hv.ld 5 (by decide) (by decide) (q := o) (show o < 3 by omega), g3, if_neg c1, hv.c, if_true, kst, Option.toList_some, List.cons_append, List.nil_append]
    rw [go1]
    by_cases hc : S.1 11 o p = 1 ∧ m ≤ S.2 13 o p
    · have e1 : nI (S.1 11 o p) = 1 := by rw [hc.1]; rfl
      have hmc := x3 (by omega)
      rw [hmc.1] at kmk
      have hlt : ¬ S.2 13 o p < m' := by
        rcases hmm with rfl | ⟨rfl, -⟩
        · exact Int32.not_lt.mpr hc.2
        · exact Int32.not_lt.mpr hmc.2
      obtain ⟨h1, k1, s1⟩ := k_record P hs hj.1.2.1 (by omega) 4 (nI o) (nI p) (-6) (-6)
      have z0 : ¬ (1 : Int32) = 0 := by decide
      have z3 : ¬ (1 : Int32) = 3 := by decide
      have go2 : am_E P 94 25 [some (.ref M), some (.int (nI o)), some (.int m'), some (.int (nI w)), some (.int (nI p)), some (.int (nI (S.1 11 o p)))] [] h = am_E P 94 59 [some (.ref M), some (.int (nI o)), some (.int m'), some (.int (nI w)), some (.int (nI p)), some (.int 1)] [.int (if (sp_rec S 4 (nI o) (nI p) (-6) (-6)).1 = true then 1 else 0)] h1 := by
        rw [e1]
        simp only [r94, if_neg z0, if_neg z3, hv.c, if_true, kmk, Option.bind_some, Option.toList_some, List.cons_append, List.nil_append, if_neg hlt, k1]
      rw [go2]
      cases hb : (sp_rec S 4 (nI o) (nI p) (-6) (-6)).1 with
      | false =>
        have e : sp_goes o m (c + 1) p w S = (none, (sp_rec S 4 (nI o) (nI p) (-6) (-6)).2) := by
          unfold sp_goes
          rw [if_pos hc, if_neg (by rw [hb]; decide)]
        rw [e]
        refine ⟨h1, ?_, ?_⟩
        · show MS M n s mem (pd + nI ((sp_rec S 4 (nI o) (nI p) (-6) (-6)).2.1 1 0 0 - S.1 1 0 0)) h1 _
          rw [sr_nrF hb, pd_z]; exact s1
        · simp [r94, sp_ans]
      | true =>
        have j1 := hj.goes1 ho hpg hc.1 (by rw [i_lt] at hm ⊢; have := i_le.mp hc.2; omega) hb
        have j2 := ST.settle (S := S) (o := o) (p := p) (z := 3) (k := 4) ho3 hpg hc.1 (by decide) hb
        obtain ⟨T, hT⟩ : ∃ T, T = sN (sp_rec S 4 (nI o) (nI p) (-6) (-6)).2 11 o p 3 := ⟨_, rfl⟩
        have e : sp_goes o m (c + 1) p w S = sp_goes o m c (p + 1) (w + S.1 10 o p) T := by
          conv => lhs; unfold sp_goes
          rw [if_pos hc, if_pos hb, ← hT]
        have hT1 : T.1 1 0 0 = S.1 1 0 0 + 1 := by rw [hT, sN_1, if_neg (by omega), sr_nrT hb]
        have s2 : MS M n s mem pd h1 T := by rw [hT]; exact s1.gN (by decide)
        rw [← hT] at j1 j2
        rw [e]
        clear hT s1 k1 e
        obtain ⟨f3, F3, v3, p3, s3⟩ := s2.pdn (pd + 1)
        have T10 : T.1 10 o p = S.1 10 o p := j2.1 10 o p (by omega)
        have T5 : T.1 5 o 0 = S.1 5 o 0 := j2.1 5 o 0 (by omega)
        have T0 : T.1 0 0 0 = S.1 0 0 0 := j2.1 0 0 0 (by omega)
        have Tm : T.2 0 0 0 = S.2 0 0 0 := j2.2.2.2.2.2.2.2.2.2.2.2.1 0 0 (by decide) (by decide) (by decide)
        have krw := k_rowsOf P s3 (by have := j1.nr; omega) (nI o) (nI p)
        rw [(j1.1.1.1 o p ho3 (by rw [T5]; exact hpg)).2.2.2.2.2, T10] at krw
        obtain ⟨h', i1, i2⟩ := ih (p + 1) (w + S.1 10 o p) T _ (pd + 1) (some (.int 1)) s3 j1 (by rw [T0]; exact ho) (by rw [T5]; omega) (by rw [Tm]; exact hm)
        have hle := (JN.goes (o := o) (m := m) c (p + 1) (w + S.1 10 o p) T j1 (by rw [T0]; exact ho) (by rw [T5]; omega) (by rw [Tm]; exact hm)).2.1.2.2.2.2.1
        have epd : pd + 1 + nI ((sp_goes o m c (p + 1) (w + S.1 10 o p) T).2.1 1 0 0 - T.1 1 0 0) = pd + nI ((sp_goes o m c (p + 1) (w + S.1 10 o p) T).2.1 1 0 0 - S.1 1 0 0) := by
          have := pd_add (pd := pd) (a := S.1 1 0 0) (b := T.1 1 0 0) (by omega) hle
          rw [← this, hT1, Nat.add_sub_cancel_left]
          rfl
        rw [epd] at i1
        refine ⟨h', i1, ?_⟩
        rw [← i2]
        simp only [r94, if_true, if_neg z0, v3.g, mo_g, Option.bind_some, p3, v3.w 33 (by decide), mo_s]
        simp only [r94, s3.c, if_true, krw, Option.bind_some, Option.toList_some, List.cons_append, List.nil_append, nI_add, nI_1]
    · have e : sp_goes o m (c + 1) p w S = sp_goes o m c (p + 1) w S := by
        conv => lhs; unfold sp_goes
        rw [if_neg hc]
      rw [e]
      obtain ⟨h', i1, i2⟩ := ih (p + 1) w S h pd (some (.int (nI (S.1 11 o p)))) hs hj ho (by omega) hm
      refine ⟨h', i1, ?_⟩
      rw [← i2]
      by_cases h0 : S.1 11 o p = 0
      · have e0 : nI (S.1 11 o p) = 0 := by rw [h0]; rfl
        simp only [r94, e0, if_true, nI_1]
      · have e0 : ¬ nI (S.1 11 o p) = 0 := fun q => h0 ((nI_inj (b := 0) (by omega) (by decide)).mp q)
        by_cases h3' : S.1 11 o p = 3
        · have e3 : nI (S.1 11 o p) = 3 := by rw [h3']; rfl
          have z : ¬ (3 : Int32) = 0 := by decide
          simp only [r94, e3, if_true, if_neg z, nI_1]
        · have e3 : ¬ nI (S.1 11 o p) = 3 := fun q => h3' ((nI_inj (b := 3) (by omega) (by decide)).mp q)
          have hmc := x3 h0
          rw [hmc.1] at kmk
          have hlt : S.2 13 o p < m := by
            by_cases h1 : S.1 11 o p = 1
            · exact Int32.not_le.mp (fun q => hc ⟨h1, q⟩)
            · have h2 : S.1 11 o p = 2 := by omega
              have l1 := hiP.2.2.2.1 h2
              have l2 := hiP.2.2.2.2.2.2 (by have := hiP.1; omega)
              rw [i_lt] at hm ⊢
              rw [i_le] at l2
              omega
          have hlt' : S.2 13 o p < m' := by
            rcases hmm with rfl | ⟨rfl, hm0⟩
            · exact hlt
            · have := hmc.2
              rw [i_lt] at hlt hm0
              rw [i_le] at this
              have z0 : (0 : Int32).toInt = 0 := rfl
              omega
          simp only [r94, if_neg e0, if_neg e3, hv.c, if_true, kmk, Option.bind_some, Option.toList_some, List.cons_append, List.nil_append, hlt', nI_1]
theorem k_goes (P : Nat × Nat) {o : Nat} {m m' : Int32} (hmm : m' = m ∨ (m' = 0 ∧ m < 0)) {S : sp} {h : am_H} {pd : Int32} (hs : MS M n s mem pd h S) (hj : JN S) (ho : o < S.1 0 0 0) (hm : S.2 0 0 0 < m) :
    ∃ h', MS M n s mem (pd + nI ((sp_goes o m (S.1 5 o 0) 0 0 S).2.1 1 0 0 - S.1 1 0 0)) h' (sp_goes o m (S.1 5 o 0) 0 0 S).2 ∧ am_E P 94 0 [some (.ref M), some (.int (nI o)), some (.int m'), none, none, none] [] h = some (some (.int (sp_ans (sp_goes o m (S.1 5 o 0) 0 0 S)).1), h') := by
  obtain ⟨h', i1, i2⟩ := k_goesL (M := M) (n := n) (s := s) (mem := mem) P (o := o) hmm (S.1 5 o 0) 0 0 S h pd none hs hj ho (Nat.zero_add _) hm
  refine ⟨h', i1, ?_⟩
  simp only [r94]
  exact i2
theorem k_giveL (P : Nat × Nat) {m : Int32} : ∀ (c o w : Nat) (S : sp) (h : am_H) (pd : Int32) (l4 : Option Value), MS M n s mem pd h S → JN S → o + c = S.1 0 0 0 → S.2 0 0 0 < m → (∀ b, S.1 4 b 0 ≤ 20) →
    ∃ h' pd', MS M n s mem pd' h' (sp_giveL m c o w S).2 ∧ ((sp_giveL m c o w S).1 = none → am_E P 95 44 [some (.ref M), some (.int m), some (.int (nI w)), some (.int (nI o)), l4] [] h = some (some (.int (-5)), h')) ∧
      (∀ w', (sp_giveL m c o w S).1 = some w' → ∃ l3 l4', am_E P 95 44 [some (.ref M), some (.int m), some (.int (nI w)), some (.int (nI o)), l4] [] h = am_E P 95 93 [some (.ref M), some (.int m), some (.int (nI w')), l3, l4'] [] h') := by
  intro c
  induction c with
  | zero =>
    intro o w S h pd l4 hs hj ho hm hop
    obtain ⟨f, F, hv, hf, hF, -⟩ := id hs
    have f1 := hf.1
    have h3 := hj.1.2.2.1
    refine ⟨h, pd, hs, fun q => (by cases q), fun w' q => ⟨some (.int (nI o)), l4, ?_⟩⟩
    cases q
    have c1 : nI (S.1 0 0 0) ≤ nI o := nI_le (by omega) (by omega)
    rw [hd95_44]
    simp only [r95, hv.g, mo_g, f1, Option.bind_some, if_pos c1]
  | succ c ih =>
    intro o w S h pd l4 hs hj ho hm hop
    obtain ⟨f, F, hv, hf, hF, -⟩ := id hs
    have f1 := hf.1
    have h3 := hj.1.2.2.1
    have ho3 : o < 3 := by omega
    have c1 : ¬ nI (S.1 0 0 0) ≤ nI o := nI_ge (by omega) (by omega)
    obtain ⟨h1, s1, k1⟩ := k_goes P (o := o) (m := m) (m' := m) (Or.inl rfl) hs hj (by omega) hm
    obtain ⟨j1, j2, j3⟩ := JN.goes (o := o) (m := m) (S.1 5 o 0) 0 0 S hj (by omega) (Nat.zero_add _) hm
    have hle := goes_le (o := o) (m := m) (S.1 5 o 0) 0 0 S
    have go : am_E P 95 44 [some (.ref M), some (.int m), some (.int (nI w)), some (.int (nI o)), l4] [] h = am_E P 95 60 [some (.ref M), some (.int m), some (.int (nI w)), some (.int (nI o)), some (.int (sp_ans (sp_goes o m (S.1 5 o 0) 0 0 S)).1)] [] h1 := by
      rw [hd95_44]
      simp only [r95, hv.g, mo_g, f1, Option.bind_some, if_neg c1, hv.c, if_true, k1, Option.toList_some, List.cons_append, List.nil_append]
    rw [go]
    cases hO : sp_goes o m (S.1 5 o 0) 0 0 S with
    | mk a T =>
      rw [hO] at s1 j1 j2 j3 hle
      cases a with
      | none =>
        have e : sp_giveL m (c + 1) o w S = (none, T) := by unfold sp_giveL; rw [hO]
        rw [e]
        refine ⟨h1, _, s1, fun _ => ?_, fun w' q => by cases q⟩
        have z5 : ¬ (0 : Int32) ≤ -5 := by decide
        simp only [sp_ans, r95, if_neg z5]
      | some x =>
        have e : sp_giveL m (c + 1) o w S = sp_giveL m c (o + 1) (w + (x + T.1 4 o 0)) (sN T 4 o 0 0) := by conv => lhs; unfold sp_giveL; rw [hO]
        rw [e]
        simp only at s1 j1 j2 j3
        have hx : x ≤ 20 * S.1 5 o 0 := by
          have := hle x (fun q hq => (hj.1.2.2.2.2.1 o q (by omega) (by omega)).2.1) rfl
          omega
        have hgv := hj.1.1.2.2.1 o ho3
        obtain ⟨f2, F2, v2, s2⟩ := s1.op0 ho3
        obtain ⟨f9, F9, v9, hf9, hF9, -⟩ := id s1
        have g2 := (hF9.1 o ho3).2.1
        have st2 := j2.trans (ST.op0 T o)
        obtain ⟨h', pd', i1, i2, i3⟩ := ih (o + 1) (w + (x + T.1 4 o 0)) (sN T 4 o 0 0) _ _ (some (.int (nI x))) s2 (j1.op0 o) (by rw [st2.1 0 0 0 (by omega)]; omega) (by rw [st2.2.2.2.2.2.2.2.2.2.2.2.1 0 0 (by decide) (by decide) (by decide)]; exact hm) (fun b => Nat.le_trans (st2.2.1 b) (hop b))
        have z5 : (0 : Int32) ≤ nI x := nI_le (a := 0) (by omega) (by omega)
        have step : am_E P 95 60 [some (.ref M), some (.int m), some (.int (nI w)), some (.int (nI o)), some (.int (sp_ans (some x, T)).1)] [] h1 = am_E P 95 44 [some (.ref M), some (.int m), some (.int (nI (w + (x + T.1 4 o 0)))), some (.int (nI (o + 1))), some (.int (nI x))] [] (ah_put h1 (M + 2) (ac_I (ml 2) (upd (F2 2) o 0))) := by
          simp only [sp_ans, r95, if_pos z5, v9.g, mo_g, Option.bind_some, v9.ld 2 (by decide) (by decide) (q := o) (show o < 3 by omega), g2, nI_add]
          simp only [r95, v2.g, mo_g, Option.bind_some, v2.st 2 (by decide) (by decide) (q := o) (show o < 3 by omega), nI_1]
        rw [step]
        exact ⟨h', pd', i1, i2, i3⟩
/-- barriers are dropped -/
theorem MS.nb {h : am_H} {S : sp} {pd : Int32} (hs : MS M n s mem pd h S) {k : Nat} (hk : k ≤ S.1 2 0 0) : ∃ f F, MV M n s mem h f F ∧ MS M n s mem pd (ah_put h M (ac_O 9 (mo M (va_up f 27 (nI k))))) (sN S 2 0 0 k) := by
  obtain ⟨f, F, hv, hf, hF, hpd⟩ := hs
  refine ⟨f, F, hv, _, F, hv.p 27 (nI k), ?_, ?_, by simpa [va_up] using hpd⟩
  · obtain ⟨f1, f2, f3, f4, f5, f6, f7, f8, f9, f10⟩ := hf
    simp [m_f, va_up, sN_1, sN_2, f1, f2, f3, f4, f6, f7, f8, f9, f10]
  · obtain ⟨g1, g2, g3, g4, g5, g6, g7⟩ := hF
    refine ⟨g1, g2, g3, g4, g5, g6, fun i hi => ?_⟩
    rw [sN_1, if_pos ⟨rfl, rfl, rfl⟩] at hi
    exact g7 i (by omega)
theorem nI_pos_pred {k : Nat} (hk : k < 2 ^ 31 - 1) : nI (k + 1) - 1 = nI k ∧ ¬ nI (k + 1) ≤ 0 := ⟨nI_pred k, nI_nle (by omega) (by omega)⟩
theorem k_dropG (P : Nat × Nat) {m : Int32} {l2 l3 l4 : Option Value} : ∀ (c : Nat) (S : sp) (h : am_H) (pd : Int32), MS M n s mem pd h S → S.1 2 0 0 = c → c < 200 →
    ∃ h', MS M n s mem pd h' (sp_drop m c S) ∧ am_E P 95 93 [some (.ref M), some (.int m), l2, l3, l4] [] h = am_E P 95 128 [some (.ref M), some (.int m), l2, l3, l4] [] h' := by
  intro c
  induction c with
  | zero =>
    intro S h pd hs hc _
    obtain ⟨f, F, hv, hf, hF, -⟩ := id hs
    have f5 := hf.2.2.2.2.1
    rw [hc] at f5
    refine ⟨h, hs, ?_⟩
    have z : nI 0 ≤ 0 := by decide
    conv => lhs; rw [hd95_93]
    simp only [r95, hv.g, mo_g, f5, Option.bind_some, if_pos z]
  | succ c ih =>
    intro S h pd hs hc hb
    obtain ⟨f, F, hv, hf, hF, -⟩ := id hs
    have f5 := hf.2.2.2.2.1
    rw [hc] at f5
    obtain ⟨e1, e2⟩ := nI_pos_pred (k := c) (by omega)
    have g7 := hF.2.2.2.2.2.2 c (by omega)
    by_cases hm : m ≤ S.2 5 c 0
    · have e : sp_drop m (c + 1) S = sp_drop m c (sN S 2 0 0 c) := by conv => lhs; unfold sp_drop; rw [if_pos hm]
      rw [e]
      obtain ⟨f2, F2, v2, s2⟩ := hs.nb (k := c) (by omega)
      have f5' : f2 27 = nI (c + 1) := by
        have m1 := v2.2.2.1
        have m2 := hv.2.2.1
        rw [m1] at m2
        have := congrArg (fun q => match q with | .inr (.inr (.inl (_, fs))) => (fs : List Value)[27]? | _ => none) m2
        simp only [mo_g, Option.some.injEq, Value.int.injEq] at this
        rw [this]; exact f5
      obtain ⟨h', i1, i2⟩ := ih (sN S 2 0 0 c) _ pd s2 (by simp [sN_1]) (by omega)
      refine ⟨h', i1, ?_⟩
      rw [← i2]
      have z2 : ¬ S.2 5 c 0 < m := Int32.not_lt.mpr hm
      conv => lhs; rw [hd95_93]
      simp only [r95, hv.g, mo_g, f5, Option.bind_some, if_neg e2, e1, hv.ld 23 (by decide) (by decide) (q := c) (show c < 201 by omega), g7, if_neg z2]
      simp only [r95, v2.g, mo_g, f5', e1, Option.bind_some, v2.w 27 (by decide), mo_s]
    · have e : sp_drop m (c + 1) S = S := by unfold sp_drop; rw [if_neg hm]
      rw [e]
      refine ⟨h, hs, ?_⟩
      have z2 : S.2 5 c 0 < m := Int32.not_le.mp hm
      conv => lhs; rw [hd95_93]
      simp only [r95, hv.g, mo_g, f5, Option.bind_some, if_neg e2, e1, hv.ld 23 (by decide) (by decide) (q := c) (show c < 201 by omega), g7, if_pos z2]
/-- what a mark must be for give -/
def sp_giveQ (S : sp) (m : Int32) : Int32 × sp := if m < 0 ∨ 1000000 < m ∨ m ≤ S.2 0 0 0 then (-2, S) else if S.2 0 2 0 ≠ 0 then (-5, S) else sp_give S m
theorem giveL_nb {m : Int32} : ∀ (c o w : Nat) (S : sp), JN S → o + c = S.1 0 0 0 → S.2 0 0 0 < m → (sp_giveL m c o w S).2.1 2 0 0 = S.1 2 0 0 := fun c o w S h1 h2 h3 => (JN.giveL c o w S h1 h2 h3).2.1.1 2 0 0 (by omega)
theorem k_give (P : Nat × Nat) {m : Int32} {S : sp} {h : am_H} {pd : Int32} (hs : MS M n s mem pd h S) (hj : JN S) (hop : ∀ b, S.1 4 b 0 ≤ 20) (hb : S.1 2 0 0 < 200) : ∃ h' pd', am_E P 95 0 [some (.ref M), some (.int m), none, none, none] [] h = some (some (.int (sp_giveQ S m).1), h') ∧ MS M n s mem pd' h' (sp_giveQ S m).2 := by
  obtain ⟨f, F, hv, hf, hF, -⟩ := id hs
  have f4 := hf.2.2.2.1
  have f8 := hf.2.2.2.2.2.2.2.1
  by_cases c1 : m < 0 ∨ 1000000 < m ∨ m ≤ S.2 0 0 0
  · have e : sp_giveQ S m = (-2, S) := by unfold sp_giveQ; rw [if_pos c1]
    rw [e]
    refine ⟨h, pd, ?_, hs⟩
    simp only [r95, k_no, Option.bind_some, Option.toList_some, List.cons_append, List.nil_append]
    by_cases c2 : m < 0 ∨ 1000000 < m
    · have z : ¬ (1 : Int32) = 0 := by decide
      simp only [if_pos c2, if_neg z, r95]
    · have c3 : m ≤ S.2 0 0 0 := by
        rcases c1 with q | q | q
        · exact absurd (Or.inl q) c2
        · exact absurd (Or.inr q) c2
        · exact q
      have c4 : ¬ S.2 0 0 0 < m := Int32.not_lt.mpr c3
      have c5 : ¬ S.2 0 0 0 = -6 := by
        intro q
        rw [q] at c3
        have c6 : ¬ m < 0 := fun w => c2 (Or.inl w)
        rw [i_lt] at c6
        rw [i_le, nm_m6] at c3
        have z0 : (0 : Int32).toInt = 0 := rfl
        omega
      simp only [if_neg c2, if_true, r95, hv.g, mo_g, f4, Option.bind_some, if_neg c5, if_neg c4]
  · have c2 : ¬ (m < 0 ∨ 1000000 < m) := by
      rintro (q | q)
      · exact c1 (Or.inl q)
      · exact c1 (Or.inr (Or.inl q))
    have c3 : S.2 0 0 0 < m := Int32.not_le.mp (fun q => c1 (Or.inr (Or.inr q)))
    have go : am_E P 95 0 [some (.ref M), some (.int m), none, none, none] [] h = am_E P 95 30 [some (.ref M), some (.int m), none, none, none] [] h := by
      simp only [r95, k_no, Option.bind_some, Option.toList_some, List.cons_append, List.nil_append, if_neg c2, if_true, hv.g, mo_g, f4, if_pos c3, ite_self]
    rw [go]
    by_cases d1 : S.2 0 2 0 = 0
    · have e : sp_giveQ S m = sp_give S m := by unfold sp_giveQ; rw [if_neg c1, if_neg (fun q => q d1)]
      rw [e]
      have go2 : am_E P 95 30 [some (.ref M), some (.int m), none, none, none] [] h = am_E P 95 44 [some (.ref M), some (.int m), some (.int (nI 0)), some (.int (nI 0)), none] [] h := by
        simp only [r95, hv.g, mo_g, f8, d1, Option.bind_some, if_true]
        rfl
      rw [go2]
      obtain ⟨h1, pd1, s1, q2, q3⟩ := k_giveL (M := M) (n := n) (s := s) (mem := mem) P (m := m) (S.1 0 0 0) 0 0 S h pd none hs hj (Nat.zero_add _) c3 hop
      have hnb := giveL_nb (m := m) (S.1 0 0 0) 0 0 S hj (Nat.zero_add _) c3
      unfold sp_give
      cases hO : sp_giveL m (S.1 0 0 0) 0 0 S with
      | mk a T =>
        rw [hO] at s1 q2 q3 hnb
        cases a with
        | none => exact ⟨h1, pd1, q2 rfl, s1⟩
        | some w =>
          obtain ⟨l3, l4, q4⟩ := q3 w rfl
          simp only at s1 hnb
          obtain ⟨h2, s2, q5⟩ := k_dropG (M := M) (n := n) (s := s) (mem := mem) P (m := m) (l2 := some (.int (nI w))) (l3 := l3) (l4 := l4) (T.1 2 0 0) T h1 pd1 s1 rfl (by omega)
          refine ⟨h2, pd1, ?_, s2⟩
          rw [q4, q5]
          simp only [r95]
    · have e : sp_giveQ S m = (-5, S) := by unfold sp_giveQ; rw [if_neg c1, if_pos d1]
      rw [e]
      refine ⟨h, pd, ?_, hs⟩
      simp only [r95, hv.g, mo_g, f8, Option.bind_some, if_neg d1]
end MGo
