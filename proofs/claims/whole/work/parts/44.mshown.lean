/-! The model: all that waits is shown. -/
theorem pd_add {pd : Int32} {a b c : Nat} (h1 : a ≤ b) (h2 : b ≤ c) : pd + nI (b - a) + nI (c - b) = pd + nI (c - a) := by
  rw [Int32.add_assoc, nI_add]
  congr 2
  omega
theorem pd_z {pd : Int32} {a : Nat} : pd + nI (a - a) = pd := by
  rw [Nat.sub_self]
  exact Int32.add_zero pd
theorem showR_le {o p : Nat} : ∀ (c pl w : Nat) (S : sp) (w' : Nat), (sp_showR o p c pl w S).1 = some w' → w' ≤ w + c := by
  intro c
  induction c with
  | zero => intro pl w S w' h; cases h; omega
  | succ c ih =>
    intro pl w S w' h
    unfold sp_showR at h
    split at h
    · have := ih _ _ _ _ h
      have := (sp_come_keep (S := (sp_act S).2) (o := o) (p := p) (pl := pl) (r := S.1 9 o p + pl)).2.2.2.1
      omega
    · cases h
theorem showP_le {o p : Nat} {S : sp} {w : Nat} (h : (sp_showP S o p).1 = some w) : w ≤ S.1 10 o p := by
  unfold sp_showP at h
  cases hR : sp_showR o p (S.1 10 o p) 0 0 S with
  | mk a T =>
    rw [hR] at h
    cases a with
    | none => cases h
    | some x =>
      have := showR_le (o := o) (p := p) (S.1 10 o p) 0 0 S x (by rw [hR])
      simp only at h
      split at h
      · cases h; omega
      · cases h
section MSn
variable {M n s : Nat} {mem : Nat → am_C}
theorem MS.tr {h : am_H} {S : sp} {pd : Int32} (hs : MS M n s mem pd h S) {o : Nat} (ho : o < 3) : ∃ f F, MV M n s mem h f F ∧ m_f f S ∧ F 6 o = S.2 1 o 1 ∧ MS M n s mem pd (ah_put h (M + 6) (ac_I (ml 6) (upd (F 6) o (S.2 1 o 1 + 1)))) (sp_try S o) := by
  obtain ⟨f, F, hv, hf, hF, hpd⟩ := hs
  refine ⟨f, F, hv, hf, (hF.1 o ho).2.2.2.1, f, _, hv.a 6 (by decide) (by decide) o _, ?_, ?_, hpd⟩
  · obtain ⟨f1, f2, f3, f4, f5, f6, f7, f8, f9, f10⟩ := hf
    simp [m_f, sp_try, sV_1, sV_2, f1, f2, f3, f4, f5, f6, f7, f8, f9, f10]
  · obtain ⟨g1, g2, g3, g4, g5, g6, g7⟩ := hF
    refine ⟨fun a ha => ?_, ?_, ?_, ?_, ?_, ?_, ?_⟩
    · obtain ⟨a1, a2, a3, a4, a5, a6⟩ := g1 a ha
      by_cases hao : a = o
      · subst hao
        simpa [va_up, upd, sp_try, sV_1, sV_2] using ⟨a1, a2, a3, a5, a6⟩
      · simpa [va_up, upd, sp_try, sV_1, sV_2, hao] using ⟨a1, a2, a3, a4, a5, a6⟩
    · simpa [va_up, sp_try, sV_1, sV_2] using g2
    · simpa [va_up, sp_try, sV_1, sV_2] using g3
    · simpa [va_up, sp_try, sV_1, sV_2] using g4
    · simpa [va_up, sp_try, sV_1, sV_2] using g5
    · simpa [va_up, sp_try, sV_1, sV_2] using g6
    · simpa [va_up, sp_try, sV_1, sV_2] using g7
theorem MS.fl {h : am_H} {S : sp} {pd : Int32} (hs : MS M n s mem pd h S) {o : Nat} (ho : o < 3) (x : Int32) : ∃ f F, MV M n s mem h f F ∧ F 7 o = S.2 1 o 2 ∧ MS M n s mem pd (ah_put h (M + 7) (ac_I (ml 7) (upd (F 7) o x))) (sV S 1 o 2 x) := by
  obtain ⟨f, F, hv, hf, hF, hpd⟩ := hs
  refine ⟨f, F, hv, (hF.1 o ho).2.2.2.2.1, f, _, hv.a 7 (by decide) (by decide) o _, ?_, ?_, hpd⟩
  · obtain ⟨f1, f2, f3, f4, f5, f6, f7, f8, f9, f10⟩ := hf
    simp [m_f, sV_1, sV_2, f1, f2, f3, f4, f5, f6, f7, f8, f9, f10]
  · obtain ⟨g1, g2, g3, g4, g5, g6, g7⟩ := hF
    refine ⟨fun a ha => ?_, ?_, ?_, ?_, ?_, ?_, ?_⟩
    · obtain ⟨a1, a2, a3, a4, a5, a6⟩ := g1 a ha
      by_cases hao : a = o
      · subst hao
        simpa [va_up, upd, sV_1, sV_2] using ⟨a1, a2, a3, a4, a6⟩
      · simpa [va_up, upd, sV_1, sV_2, hao] using ⟨a1, a2, a3, a4, a5, a6⟩
    · simpa [va_up, sV_1, sV_2] using g2
    · simpa [va_up, sV_1, sV_2] using g3
    · simpa [va_up, sV_1, sV_2] using g4
    · simpa [va_up, sV_1, sV_2] using g5
    · simpa [va_up, sV_1, sV_2] using g6
    · simpa [va_up, sV_1, sV_2] using g7
theorem co_st {S : sp} (h : JN S) {o p : Nat} (ho : o < S.1 0 0 0) (hp : p < S.1 5 o 0) : q_st S (nI o) (nI p) (S.1 1 0 0) = nI (S.1 11 o p) ∧ S.1 11 o p ≤ 3 ∧ (S.1 11 o p ≠ 0 → (q_mk S (nI o) (nI p) (S.1 1 0 0)).getD (-6) = S.2 13 o p ∧ 0 ≤ S.2 13 o p) := by
  have h3 := h.1.2.2.1
  obtain ⟨b1, b2, b3, -⟩ := h.1.1.1 o p (by omega) hp
  refine ⟨b1, b2, fun hne => ⟨?_, (h.1.2.2.2.2.1 o p ho hp).2.2.2.2.2.1 hne⟩⟩
  rw [b3, if_neg hne]
  rfl
theorem k_showO (P : Nat × Nat) {o : Nat} : ∀ (c p w : Nat) (S : sp) (h : am_H) (pd : Int32) (l5 : Option Value), MS M n s mem pd h S → JN S → o < S.1 0 0 0 → p + c = S.1 5 o 0 → (∀ q, q < p → S.1 11 o q ≠ 1 ∨ S.2 0 0 0 < S.2 13 o q) →
    ∃ h', MS M n s mem (pd + nI ((sp_showO o c p w S).2.1 1 0 0 - S.1 1 0 0)) h' (sp_showO o c p w S).2 ∧
      ((sp_showO o c p w S).1 = none → am_E P 90 17 [some (.ref M), some (.int (nI w)), some (.int (nI o)), some (.int 0), some (.int (nI p)), l5] [] h = some (some (.int (-5)), h')) ∧
      (∀ w', (sp_showO o c p w S).1 = some w' → ∃ l3 l4 l5', am_E P 90 17 [some (.ref M), some (.int (nI w)), some (.int (nI o)), some (.int 0), some (.int (nI p)), l5] [] h = am_E P 90 4 [some (.ref M), some (.int (nI w')), some (.int (nI (o + 1))), l3, l4, l5'] [] h') := by
  intro c
  induction c with
  | zero =>
    intro p w S h pd l5 hs hj ho hp hprev
    have h3 := hj.1.2.2.1
    have hgv := hj.1.1.2.2.1 o (by omega)
    obtain ⟨f, F, hv, hf, hF, -⟩ := id hs
    obtain ⟨g1, g2, g3, g4, g5, g6⟩ := hF.1 o (by omega)
    refine ⟨h, by show MS M n s mem (pd + nI (S.1 1 0 0 - S.1 1 0 0)) h S; rw [pd_z]; exact hs, fun q => (by cases q), fun w' q => ?_⟩
    cases q
    have c1 : nI (S.1 5 o 0) ≤ nI p := nI_le (by omega) (by omega)
    refine ⟨some (.int 0), some (.int (nI p)), l5, ?_⟩
    rw [hd90_17]
    simp only [r90, hv.g, mo_g, Option.bind_some, hv.ld 5 (by decide) (by decide) (q := o) (show o < 3 by omega), g3, if_pos c1, nI_1]
  | succ c ih =>
    intro p w S h pd l5 hs hj ho hp hprev
    have h3 := hj.1.2.2.1
    have ho3 : o < 3 := by omega
    have hgv := hj.1.1.2.2.1 o (by omega)
    have hpg : p < S.1 5 o 0 := by omega
    have hnr := hj.nr
    obtain ⟨f, F, hv, hf, hF, -⟩ := id hs
    have f4 := hf.2.2.2.1
    obtain ⟨g1, g2, g3, g4, g5, g6⟩ := hF.1 o ho3
    have c1 : ¬ nI (S.1 5 o 0) ≤ nI p := nI_ge (by omega) (by omega)
    obtain ⟨x1, x2, x3⟩ := co_st hj ho hpg
    have kst := k_stateOf P hs (by omega) (nI o) (nI p)
    have kmk := k_markOf P hs (by omega) (nI o) (nI p)
    rw [x1] at kst
    have skip : ¬ (S.1 11 o p = 1 ∧ S.2 13 o p ≤ S.2 0 0 0) → am_E P 90 17 [some (.ref M), some (.int (nI w)), some (.int (nI o)), some (.int 0), some (.int (nI p)), l5] [] h = am_E P 90 17 [some (.ref M), some (.int (nI w)), some (.int (nI o)), some (.int 0), some (.int (nI (p + 1))), l5] [] h := by
      intro hc
      conv => lhs; rw [hd90_17]
      simp only [r90, hv.g, mo_g, f4, Option.bind_some, hv.ld 5 (by decide) (by decide) (q := o) (show o < 3 by omega), g3, if_neg c1, if_true]
      by_cases hm : S.2 0 0 0 = -6
      · simp only [hm, if_true, r90, nI_1]
      · simp only [hm, if_false, r90, hv.c, if_true, kst, Option.bind_some, Option.toList_some, List.cons_append, List.nil_append]
        by_cases h1 : S.1 11 o p = 1
        · have e1 : nI (S.1 11 o p) = 1 := by rw [h1]; rfl
          have e2 : ¬ S.2 13 o p ≤ S.2 0 0 0 := fun q => hc ⟨h1, q⟩
          have e3 : S.2 0 0 0 < S.2 13 o p := Int32.not_le.mp e2
          rw [(x3 (by omega)).1] at kmk
          simp only [e1, if_true, r90, hv.c, kmk, Option.bind_some, Option.toList_some, List.cons_append, List.nil_append, hv.g, mo_g, f4, e3, nI_1]
        · have e1 : ¬ nI (S.1 11 o p) = 1 := fun q => h1 ((nI_inj (b := 1) (by omega) (by decide)).mp q)
          simp only [e1, if_false, r90, nI_1]
    by_cases hc : S.1 11 o p = 1 ∧ S.2 13 o p ≤ S.2 0 0 0
    · obtain ⟨f2, F2, v2, hf2, e6, s2⟩ := hs.tr ho3
      have hm6 : ¬ S.2 0 0 0 = -6 := by
        intro q
        have := (x3 (by omega)).2
        have q2 := hc.2
        rw [q, i_le, nm_m6] at q2
        rw [i_le] at this
        have z0 : (0 : Int32).toInt = 0 := rfl
        omega
      have e1 : nI (S.1 11 o p) = 1 := by rw [hc.1]; rfl
      have e3 : ¬ S.2 0 0 0 < S.2 13 o p := Int32.not_lt.mpr hc.2
      have kmk2 := kmk
      rw [(x3 (by omega)).1] at kmk2
      obtain ⟨f3, F3, v3, hf3, hF3, -⟩ := id s2
      have t7 : F3 7 o = S.2 1 o 2 := by
        have := (hF3.1 o ho3).2.2.2.2.1
        rw [this]; simp [sp_try, sV_2]
      have go : am_E P 90 17 [some (.ref M), some (.int (nI w)), some (.int (nI o)), some (.int 0), some (.int (nI p)), l5] [] h = am_E P 90 82 [some (.ref M), some (.int (nI w)), some (.int (nI o)), some (.int 0), some (.int (nI p)), l5] [.int (S.2 1 o 2)] (ah_put h (M + 6) (ac_I (ml 6) (upd (F2 6) o (S.2 1 o 1 + 1)))) := by
        rw [hd90_17]
        simp only [r90, hv.g, mo_g, f4, Option.bind_some, hv.ld 5 (by decide) (by decide) (q := o) (show o < 3 by omega), g3, if_neg c1, if_true, if_neg hm6]
        simp only [r90, hv.c, if_true, kst, e1, Option.bind_some, Option.toList_some, List.cons_append, List.nil_append]
        simp only [r90, hv.c, if_true, kmk2, Option.bind_some, Option.toList_some, List.cons_append, List.nil_append, hv.g, mo_g, f4, if_neg e3]
        simp only [r90, v2.g, mo_g, Option.bind_some, v2.ld 6 (by decide) (by decide) (q := o) (show o < 3 by omega), e6, v2.st 6 (by decide) (by decide) (q := o) (show o < 3 by omega)]
        simp only [r90, v3.g, mo_g, Option.bind_some, v3.ld 7 (by decide) (by decide) (q := o) (show o < 3 by omega), t7]
      rw [go]
      by_cases hf0 : 0 < S.2 1 o 2
      · have e : sp_showO o (c + 1) p w S = (some w, sV (sp_try S o) 1 o 2 (S.2 1 o 2 - 1)) := by
          unfold sp_showO
          rw [if_pos hc, if_pos hf0]
        rw [e]
        obtain ⟨f5, F5, v5, t5, s5⟩ := s2.fl ho3 (S.2 1 o 2 - 1)
        have t5' : F5 7 o = S.2 1 o 2 := by rw [t5]; simp [sp_try, sV_2]
        refine ⟨_, by show MS M n s mem (pd + nI (S.1 1 0 0 - S.1 1 0 0)) _ _; rw [pd_z]; exact s5, fun q => (by cases q), fun w' q => ⟨some (.int 1), some (.int (nI (p + 1))), l5, ?_⟩⟩
        cases q
        have z1 : ¬ S.2 1 o 2 ≤ 0 := Int32.not_le.mpr hf0
        obtain ⟨f6, F6, v6, hf6, hF6, -⟩ := id s5
        have t6 : F6 5 o = nI (S.1 5 o 0) := (hF6.1 o ho3).2.2.1
        have step : am_E P 90 82 [some (.ref M), some (.int (nI w)), some (.int (nI o)), some (.int 0), some (.int (nI p)), l5] [.int (S.2 1 o 2)] (ah_put h (M + 6) (ac_I (ml 6) (upd (F2 6) o (S.2 1 o 1 + 1)))) = am_E P 90 17 [some (.ref M), some (.int (nI w)), some (.int (nI o)), some (.int 1), some (.int (nI (p + 1))), l5] [] (ah_put (ah_put h (M + 6) (ac_I (ml 6) (upd (F2 6) o (S.2 1 o 1 + 1)))) (M + 7) (ac_I (ml 7) (upd (F5 7) o (S.2 1 o 2 - 1)))) := by
          simp only [r90, if_neg z1, v5.g, mo_g, Option.bind_some, v5.ld 7 (by decide) (by decide) (q := o) (show o < 3 by omega), t5', v5.st 7 (by decide) (by decide) (q := o) (show o < 3 by omega), nI_1]
        rw [step, hd90_17]
        have z2 : ¬ (1 : Int32) = 0 := by decide
        simp only [r90, v6.g, mo_g, Option.bind_some, v6.ld 5 (by decide) (by decide) (q := o) (show o < 3 by omega), t6, if_neg z2, nI_1, ite_self]
      · have z1 : S.2 1 o 2 ≤ 0 := Int32.not_lt.mp hf0
        have ht := hj.try o
        have hpv : ∀ q, q < p → (sp_try S o).1 11 o q ≠ 1 := hprev_le hj ho hpg hc.1 hc.2 hprev
        have e13 : ∀ b c, (sp_try S o).2 13 b c = S.2 13 b c := fun b c => by simp [sp_try, sV_2]
        have em : (sp_try S o).2 0 0 0 = S.2 0 0 0 := by simp [sp_try, sV_2]
        obtain ⟨j1, j2, j3, j4, j5⟩ := ht.showP (o := o) (p := p) ho hpg hc.1 (by rw [e13, em]; exact hc.2) hpv
        have hP := ht.1.2.2.2.2.1 o p ho hpg
        obtain ⟨h4, e4, s4⟩ := k_showP P s2 ht.1.1 ht.1.2.1 (o := o) (p := p) ho h3 hpg hP.2.1 (by have := ht.nr; omega) (fun a ha => by have := ht.1.lines a; have := ht.nr; omega)
        have step : am_E P 90 82 [some (.ref M), some (.int (nI w)), some (.int (nI o)), some (.int 0), some (.int (nI p)), l5] [.int (S.2 1 o 2)] (ah_put h (M + 6) (ac_I (ml 6) (upd (F2 6) o (S.2 1 o 1 + 1)))) = am_E P 90 109 [some (.ref M), some (.int (nI w)), some (.int (nI o)), some (.int 0), some (.int (nI p)), some (.int (sp_ans (sp_showP (sp_try S o) o p)).1)] [] h4 := by
          simp only [r90, if_pos z1, s2.c, if_true, e4, Option.bind_some, Option.toList_some, List.cons_append, List.nil_append]
        rw [step]
        cases hPe : sp_showP (sp_try S o) o p with
        | mk a T =>
          rw [hPe] at j1 j2 j3 j4 j5 s4
          cases a with
          | none =>
            have e : sp_showO o (c + 1) p w S = (none, T) := by
              unfold sp_showO
              rw [if_pos hc, if_neg hf0, hPe]
            rw [e]
            have hn1 : T.1 1 0 0 = S.1 1 0 0 := j5 rfl
            refine ⟨h4, by show MS M n s mem (pd + nI (T.1 1 0 0 - S.1 1 0 0)) h4 T; rw [hn1, pd_z]; exact s4, fun _ => ?_, fun w' q => by cases q⟩
            have z5 : ¬ (0 : Int32) ≤ -5 := by decide
            simp only [sp_ans, r90, if_neg z5]
          | some x =>
            have e : sp_showO o (c + 1) p w S = sp_showO o c (p + 1) (w + x) T := by
              conv => lhs; unfold sp_showO
              rw [if_pos hc, if_neg hf0, hPe]
            rw [e]
            have hx : x ≤ 20 := by
              have := showP_le (S := sp_try S o) (o := o) (p := p) (w := x) (by rw [hPe])
              have := hP.2.1
              omega
            have hn1 : T.1 1 0 0 = S.1 1 0 0 + 1 := (j3 (by simp)).2
            have s4' : MS M n s mem (pd + 1) h4 T := s4
            have hT5 : T.1 5 o 0 = S.1 5 o 0 := j2.1 5 o 0 (by omega)
            obtain ⟨h', q1, q2, q3⟩ := ih (p + 1) (w + x) T h4 (pd + 1) (some (.int (nI x))) s4' j1 (by rw [j2.1 0 0 0 (by omega)]; exact ho) (by rw [hT5]; omega) (fun q hq => by
              left
              by_cases hqp : q = p
              · subst hqp
                rw [(j3 (by simp)).1]
                decide
              · rw [j4 o q (by omega)]
                exact hpv q (by omega))
            have hle : T.1 1 0 0 ≤ (sp_showO o c (p + 1) (w + x) T).2.1 1 0 0 := (JN.showO (o := o) c (p + 1) (w + x) T j1 (by rw [j2.1 0 0 0 (by omega)]; exact ho) (by rw [hT5]; omega) (fun q hq => by
              left
              by_cases hqp : q = p
              · subst hqp
                rw [(j3 (by simp)).1]
                decide
              · rw [j4 o q (by omega)]
                exact hpv q (by omega))).2.2.2.2.2.1
            have epd : pd + 1 + nI ((sp_showO o c (p + 1) (w + x) T).2.1 1 0 0 - T.1 1 0 0) = pd + nI ((sp_showO o c (p + 1) (w + x) T).2.1 1 0 0 - S.1 1 0 0) := by
              have := pd_add (pd := pd) (a := S.1 1 0 0) (b := T.1 1 0 0) (by omega) hle
              rw [← this, hn1, Nat.add_sub_cancel_left]
              rfl
            rw [epd] at q1
            have z5 : (0 : Int32) ≤ nI x := nI_le (a := 0) (by omega) (by omega)
            have step2 : am_E P 90 109 [some (.ref M), some (.int (nI w)), some (.int (nI o)), some (.int 0), some (.int (nI p)), some (.int (sp_ans (some x, T)).1)] [] h4 = am_E P 90 17 [some (.ref M), some (.int (nI (w + x))), some (.int (nI o)), some (.int 0), some (.int (nI (p + 1))), some (.int (nI x))] [] h4 := by
              simp only [sp_ans, r90, if_pos z5, nI_add, nI_1]
            rw [step2]
            exact ⟨h', q1, q2, q3⟩
    · have e : sp_showO o (c + 1) p w S = sp_showO o c (p + 1) w S := by
        conv => lhs; unfold sp_showO
        rw [if_neg hc]
      rw [e, skip hc]
      exact ih (p + 1) w S h pd l5 hs hj ho (by omega) (fun q hq => by
        by_cases hqp : q = p
        · subst hqp
          by_cases h1 : S.1 11 o q = 1
          · right
            exact Int32.not_le.mp (fun e => hc ⟨h1, e⟩)
          · exact Or.inl h1
        · exact hprev q (by omega))
theorem k_showA (P : Nat × Nat) : ∀ (c o w : Nat) (S : sp) (h : am_H) (pd : Int32) (l3 l4 l5 : Option Value), MS M n s mem pd h S → JN S → o + c = S.1 0 0 0 →
    ∃ h', am_E P 90 4 [some (.ref M), some (.int (nI w)), some (.int (nI o)), l3, l4, l5] [] h = some (some (.int (sp_ans (sp_showA c o w S)).1), h') ∧ MS M n s mem (pd + nI ((sp_showA c o w S).2.1 1 0 0 - S.1 1 0 0)) h' (sp_showA c o w S).2 := by
  intro c
  induction c with
  | zero =>
    intro o w S h pd l3 l4 l5 hs hj ho
    obtain ⟨f, F, hv, hf, hF, -⟩ := id hs
    have f1 := hf.1
    have h3 := hj.1.2.2.1
    refine ⟨h, ?_, by show MS M n s mem (pd + nI (S.1 1 0 0 - S.1 1 0 0)) h S; rw [pd_z]; exact hs⟩
    have c1 : nI (S.1 0 0 0) ≤ nI o := nI_le (by omega) (by omega)
    rw [hd90_4]
    simp only [r90, hv.g, mo_g, f1, Option.bind_some, if_pos c1, sp_showA, sp_ans]
  | succ c ih =>
    intro o w S h pd l3 l4 l5 hs hj ho
    obtain ⟨f, F, hv, hf, hF, -⟩ := id hs
    have f1 := hf.1
    have h3 := hj.1.2.2.1
    have c1 : ¬ nI (S.1 0 0 0) ≤ nI o := nI_ge (by omega) (by omega)
    have go : am_E P 90 4 [some (.ref M), some (.int (nI w)), some (.int (nI o)), l3, l4, l5] [] h = am_E P 90 17 [some (.ref M), some (.int (nI w)), some (.int (nI o)), some (.int 0), some (.int (nI 0)), l5] [] h := by
      rw [hd90_4]
      simp only [r90, hv.g, mo_g, f1, Option.bind_some, if_neg c1]
      rfl
    rw [go]
    obtain ⟨h1, q1, q2, q3⟩ := k_showO (M := M) (n := n) (s := s) (mem := mem) P (o := o) (S.1 5 o 0) 0 w S h pd l5 hs hj (by omega) (Nat.zero_add _) (fun q hq => by omega)
    obtain ⟨j1, j2⟩ := JN.showO (o := o) (S.1 5 o 0) 0 w S hj (by omega) (Nat.zero_add _) (fun q hq => by omega)
    cases hO : sp_showO o (S.1 5 o 0) 0 w S with
    | mk a T =>
      rw [hO] at q1 q2 q3 j1 j2
      cases a with
      | none =>
        have e : sp_showA (c + 1) o w S = (none, T) := by unfold sp_showA; rw [hO]
        rw [e]
        exact ⟨h1, q2 rfl, q1⟩
      | some x =>
        have e : sp_showA (c + 1) o w S = sp_showA c (o + 1) x T := by conv => lhs; unfold sp_showA; rw [hO]
        rw [e]
        obtain ⟨a3, a4, a5, q4⟩ := q3 x rfl
        rw [q4]
        simp only at q1 j1 j2
        have hT0 : o + 1 + c = T.1 0 0 0 := by rw [j2.1 0 0 0 (by omega)]; omega
        obtain ⟨h', i1, i2⟩ := ih (o + 1) x T h1 _ a3 a4 a5 q1 j1 hT0
        refine ⟨h', i1, ?_⟩
        have hle := (JN.showA c (o + 1) x T j1 hT0).2.2.2.2.2.1
        rw [pd_add j2.2.2.2.2.1 hle] at i2
        exact i2
theorem k_shown (P : Nat × Nat) {S : sp} {h : am_H} {pd : Int32} (hs : MS M n s mem pd h S) (hj : JN S) : ∃ h', am_E P 90 0 [some (.ref M), none, none, none, none, none] [] h = some (some (.int (sp_shown S).1), h') ∧ MS M n s mem (pd + nI ((sp_shown S).2.1 1 0 0 - S.1 1 0 0)) h' (sp_shown S).2 := by
  obtain ⟨h', e1, e2⟩ := k_showA (M := M) (n := n) (s := s) (mem := mem) P (S.1 0 0 0) 0 0 S h pd none none none hs hj (Nat.zero_add _)
  refine ⟨h', ?_, ?_⟩
  · simp only [r90]
    exact e1
  · unfold sp_shown
    rw [sp_ans_2]
    exact e2
end MSn
