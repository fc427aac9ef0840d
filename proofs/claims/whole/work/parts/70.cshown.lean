/-! The class: showOutput, showAll. -/
theorem showO_sh {o : Nat} : ∀ (c p w d : Nat) (S : sp), sp_showO o c p (w + d) S = ((sp_showO o c p w S).1.map (· + d), (sp_showO o c p w S).2) := by
  intro c
  induction c with
  | zero => intro p w d S; rfl
  | succ c ih =>
    intro p w d S
    unfold sp_showO
    split
    · split
      · rfl
      · cases hP : sp_showP (sp_try S o) o p with
        | mk a T =>
          cases a with
          | none => rfl
          | some x =>
            simp only
            rw [show w + d + x = w + x + d by omega]
            exact ih _ _ _ _
    · exact ih _ _ _ _
theorem ans_n5 {x : Nat} (h : x < 2 ^ 31) : ¬ nI x = -5 := by
  intro e
  have := congrArg Int32.toInt e
  rw [nI_toInt h] at this
  have z : (-5 : Int32).toInt = -5 := rfl
  omega
section CSo
variable {P : Nat × Nat} {fx : Nat → Prop} {mem : Nat → am_C} {K : Nat × Nat} {ad : Nat → Nat → Nat → Nat}
theorem c_showO {o : Nat} : ∀ (c p w : Nat) (S : sp) (h : am_H) (l4 l5 : Option Value), CW P fx mem K ad h S → JN S → o < S.1 0 0 0 → p + c = S.1 5 o 0 → (∀ q, q < p → S.1 11 o q ≠ 1 ∨ S.2 0 0 0 < S.2 13 o q) →
    ∃ h', am_E P 67 4 [some (.ref (ad 0 0 0)), some (.ref (ad 9 o 0)), some (.int (nI w)), some (.int (nI p)), l4, l5] [] h = some (some (.int (sp_ans (sp_showO o c p w S)).1), h') ∧ CW P fx mem K ad h' (sp_showO o c p w S).2 ∧ (∀ x, (sp_showO o c p w S).1 = some x → x ≤ w + 20 * c) := by
  intro c
  induction c with
  | zero =>
    intro p w S h l4 l5 hv hj ho hpc hprev
    have hg : S.1 5 o 0 < 1000 := hj.1.1.2.2.1 o (by have := hj.1.2.2.1; omega)
    have c1 : nI (S.1 5 o 0) ≤ nI p := nI_le (by omega) (by omega)
    refine ⟨h, ?_, hv, fun x hx => ?_⟩
    · rw [hd67_4]
      simp only [r67, o10 (hv.ou ho), Option.bind_some, hv.szP ho, if_true, Option.toList, List.nil_append, List.cons_append, if_pos c1]
      rfl
    · have : some w = some x := hx
      simp at this
      omega
  | succ c ih =>
    intro p w S h l4 l5 hv hj ho hpc hprev
    have h3 : S.1 0 0 0 ≤ 3 := hj.1.2.2.1
    have hg : S.1 5 o 0 < 1000 := hj.1.1.2.2.1 o (by omega)
    have hp : p < S.1 5 o 0 := by omega
    have c1 : ¬ nI (S.1 5 o 0) ≤ nI p := nI_ge hp (by omega)
    obtain ⟨x, y, hpt⟩ := hv.pt ho hp
    have h11 := (hj.1.1.1 o p (by omega) hp).2.1
    have em : nI (S.1 11 o p) = 1 ↔ S.1 11 o p = 1 := nI_eq (a := S.1 11 o p) (b := 1) (by omega) (by decide)
    by_cases hc : S.1 11 o p = 1 ∧ S.2 13 o p ≤ S.2 0 0 0
    · have hmk : (if S.1 11 o p = 0 then -6 else S.2 13 o p) = S.2 13 o p := if_neg (by omega)
      rw [hmk] at hpt
      have c2 : nI (S.1 11 o p) = 1 := em.mpr hc.1
      have h0 : 0 ≤ S.2 1 o 2 := hj.1.2.2.2.2.2.2.1 o ho
      obtain ⟨h1, e1, v1⟩ := c_try hv ho h0
      have st : am_E P 67 4 [some (.ref (ad 0 0 0)), some (.ref (ad 9 o 0)), some (.int (nI w)), some (.int (nI p)), l4, l5] [] h = am_E P 67 56 [some (.ref (ad 0 0 0)), some (.ref (ad 9 o 0)), some (.int (nI w)), some (.int (nI p)), some (.ref (ad 20 o p)), l5] [.int (if 0 < S.2 1 o 2 then 1 else 0)] h1 := by
        rw [hd67_4]
        simp only [r67, o10 (hv.ou ho), Option.bind_some, hv.szP ho, if_true, Option.toList, List.nil_append, List.cons_append, if_neg c1, hv.getP ho hp, o7 hpt, if_pos c2, o9 hv.x, if_pos hc.2, e1]
      rw [st]
      have c01 : ¬ (1 : Int32) = 0 := by decide
      by_cases hf : 0 < S.2 1 o 2
      · have er : sp_showO o (c + 1) p w S = (some w, sV (sp_try S o) 1 o 2 (S.2 1 o 2 - 1)) := by
          conv => lhs; unfold sp_showO
          rw [if_pos hc, if_pos hf]
        rw [er]
        rw [if_pos hf] at v1
        refine ⟨h1, ?_, v1, fun x hx => ?_⟩
        · simp only [r67, if_pos hf, if_neg c01]
          rfl
        · have : some w = some x := hx
          simp at this
          omega
      · rw [if_neg hf] at v1
        have hjt := hj.try o
        have e13 : ∀ b c, (sp_try S o).2 13 b c = S.2 13 b c := fun b c => by simp [sp_try, sV_2]
        have em0 : (sp_try S o).2 0 0 0 = S.2 0 0 0 := by simp [sp_try, sV_2]
        have hpv : ∀ q, q < p → (sp_try S o).1 11 o q ≠ 1 := hprev_le hj ho hp hc.1 hc.2 hprev
        obtain ⟨j1, j2, j3, j4, j5⟩ := hjt.showP (o := o) (p := p) ho hp hc.1 (by rw [e13, em0]; exact hc.2) hpv
        obtain ⟨h2, e2, v2⟩ := c_showP v1 hjt ho (p := p) hp hc.1 (by rw [e13, em0]; exact hc.2) hpv
        have hle := fun w' => showP_le (o := o) (p := p) (S := sp_try S o) (w := w')
        have h20 : (sp_try S o).1 10 o p ≤ 20 := (hj.1.2.2.2.2.1 o p ho hp).2.1
        have er : sp_showO o (c + 1) p w S = match sp_showP (sp_try S o) o p with
            | (none, T) => (none, T)
            | (some x, T) => sp_showO o c (p + 1) (w + x) T := by
          conv => lhs; unfold sp_showO
          rw [if_pos hc, if_neg hf]
          rfl
        rw [er]
        generalize sp_showP (sp_try S o) o p = R at *
        obtain ⟨a, T⟩ := R
        cases a with
        | none =>
          refine ⟨h2, ?_, v2, fun x hx => by cases hx⟩
          have e2 : am_E P 68 0 [some (.ref (ad 0 0 0)), some (.ref (ad 9 o 0)), some (.ref (ad 20 o p)), none, none, none, none, none] [] h1 = some (some (.int (-5)), h2) := e2
          simp only [r67, if_neg hf, if_true, cl_of v1.x, e2, Option.bind_some, Option.toList, List.nil_append, List.cons_append]
          rfl
        | some x =>
          have hx20 : x ≤ 20 := Nat.le_trans (hle x rfl) h20
          have e2 : am_E P 68 0 [some (.ref (ad 0 0 0)), some (.ref (ad 9 o 0)), some (.ref (ad 20 o p)), none, none, none, none, none] [] h1 = some (some (.int (nI x)), h2) := e2
          simp only at j1 j2 j3 j4 j5 v2 ⊢
          obtain ⟨h', e3, v3, b3⟩ := ih (p + 1) (w + x) T h2 (some (.ref (ad 20 o p))) (some (.int (nI x))) v2 j1 (by rw [j2.1 0 0 0 (by omega)]; exact ho) (by rw [j2.1 5 o 0 (by omega)]; show p + 1 + c = S.1 5 o 0; omega) (fun q hq => by
              left
              by_cases hqp : q = p
              · subst hqp
                rw [(j3 (by simp)).1]
                decide
              · rw [j4 o q (by omega)]
                exact hpv q (by omega))
          refine ⟨h', ?_, v3, fun x' hx' => by have := b3 x' hx'; omega⟩
          refine Eq.trans ?_ e3
          have c5 : ¬ nI x = -5 := ans_n5 (by omega)
          simp only [r67, if_neg hf, if_true, cl_of v1.x, e2, Option.bind_some, Option.toList, List.nil_append, List.cons_append, if_neg c5, nI_add, nI_1]
    · have er : sp_showO o (c + 1) p w S = sp_showO o c (p + 1) w S := by
        conv => lhs; unfold sp_showO
        rw [if_neg hc]
      rw [er]
      obtain ⟨h', e3, v3, b3⟩ := ih (p + 1) w S h (some (.ref (ad 20 o p))) l5 hv hj ho (by omega) (fun q hq => by
        by_cases hqp : q = p
        · subst hqp
          by_cases h1 : S.1 11 o q = 1
          · right
            exact Int32.not_le.mp (fun e => hc ⟨h1, e⟩)
          · exact Or.inl h1
        · exact hprev q (by omega))
      refine ⟨h', ?_, v3, fun x' hx' => by have := b3 x' hx'; omega⟩
      refine Eq.trans ?_ e3
      conv => lhs; rw [hd67_4]
      by_cases h1 : S.1 11 o p = 1
      · have c2 : nI (S.1 11 o p) = 1 := em.mpr h1
        have hmk : (if S.1 11 o p = 0 then -6 else S.2 13 o p) = S.2 13 o p := if_neg (by omega)
        rw [hmk] at hpt
        have c3 : ¬ S.2 13 o p ≤ S.2 0 0 0 := fun e => hc ⟨h1, e⟩
        simp only [r67, o10 (hv.ou ho), Option.bind_some, hv.szP ho, if_true, Option.toList, List.nil_append, List.cons_append, if_neg c1, hv.getP ho hp, o7 hpt, if_pos c2, o9 hv.x, if_neg c3, nI_1]
      · have c2 : ¬ nI (S.1 11 o p) = 1 := fun e => h1 (em.mp e)
        simp only [r67, o10 (hv.ou ho), Option.bind_some, hv.szP ho, if_true, Option.toList, List.nil_append, List.cons_append, if_neg c1, hv.getP ho hp, o7 hpt, if_neg c2, nI_1]
theorem c_showA : ∀ (c o w : Nat) (S : sp) (h : am_H) (l3 : Option Value), CW P fx mem K ad h S → JN S → o + c = S.1 0 0 0 →
    ∃ h', am_E P 66 4 [some (.ref (ad 0 0 0)), some (.int (nI w)), some (.int (nI o)), l3] [] h = some (some (.int (sp_ans (sp_showA c o w S)).1), h') ∧ CW P fx mem K ad h' (sp_showA c o w S).2 := by
  intro c
  induction c with
  | zero =>
    intro o w S h l3 hv hj hoc
    have h3 : S.1 0 0 0 ≤ 3 := hj.1.2.2.1
    have c1 : nI (S.1 0 0 0) ≤ nI o := nI_le (by omega) (by omega)
    refine ⟨h, ?_, hv⟩
    rw [hd66_4]
    simp only [r66, o9 hv.x, Option.bind_some, hv.szO, if_true, Option.toList, List.nil_append, List.cons_append, if_pos c1]
    rfl
  | succ c ih =>
    intro o w S h l3 hv hj hoc
    have h3 : S.1 0 0 0 ≤ 3 := hj.1.2.2.1
    have ho : o < S.1 0 0 0 := by omega
    have hg : S.1 5 o 0 < 1000 := hj.1.1.2.2.1 o (by omega)
    have c1 : ¬ nI (S.1 0 0 0) ≤ nI o := nI_ge ho (by omega)
    obtain ⟨j1, j2⟩ := JN.showO (o := o) (S.1 5 o 0) 0 0 S hj ho (Nat.zero_add _) (fun q hq => by omega)
    obtain ⟨h1, e1, v1, b1⟩ := c_showO (o := o) (S.1 5 o 0) 0 0 S h none none hv hj ho (Nat.zero_add _) (fun q hq => by omega)
    have sh := showO_sh (o := o) (S.1 5 o 0) 0 0 w S
    rw [Nat.zero_add] at sh
    have e0 : am_E P 67 0 [some (.ref (ad 0 0 0)), some (.ref (ad 9 o 0)), none, none, none, none] [] h = some (some (.int (sp_ans (sp_showO o (S.1 5 o 0) 0 0 S)).1), h1) := by
      refine Eq.trans ?_ e1
      simp only [r67]
      rfl
    have er : sp_showA (c + 1) o w S = match sp_showO o (S.1 5 o 0) 0 w S with
        | (none, T) => (none, T)
        | (some x, T) => sp_showA c (o + 1) x T := by
      conv => lhs; unfold sp_showA
      rfl
    rw [er, sh]
    generalize sp_showO o (S.1 5 o 0) 0 0 S = R at *
    obtain ⟨a, T⟩ := R
    cases a with
    | none =>
      refine ⟨h1, ?_, v1⟩
      have e0 : am_E P 67 0 [some (.ref (ad 0 0 0)), some (.ref (ad 9 o 0)), none, none, none, none] [] h = some (some (.int (-5)), h1) := e0
      rw [hd66_4]
      simp only [r66, o9 hv.x, Option.bind_some, hv.szO, if_true, Option.toList, List.nil_append, List.cons_append, if_neg c1, hv.getO ho h3, o10 (hv.ou ho), e0]
      rfl
    | some x =>
      have e0 : am_E P 67 0 [some (.ref (ad 0 0 0)), some (.ref (ad 9 o 0)), none, none, none, none] [] h = some (some (.int (nI x)), h1) := e0
      have hx := b1 x rfl
      have c5 : ¬ nI x = -5 := ans_n5 (by omega)
      simp only at j1 j2 v1
      obtain ⟨h', e2, v2⟩ := ih (o + 1) (x + w) T h1 (some (.int (nI x))) v1 j1 (by rw [j2.1 0 0 0 (by omega)]; omega)
      refine ⟨h', ?_, v2⟩
      refine Eq.trans ?_ e2
      conv => lhs; rw [hd66_4]
      simp only [r66, o9 hv.x, Option.bind_some, hv.szO, if_true, Option.toList, List.nil_append, List.cons_append, if_neg c1, hv.getO ho h3, o10 (hv.ou ho), e0, if_neg c5, nI_add, nI_1, Nat.add_comm w x]
/-- showAll -/
theorem c_shown {S : sp} {h : am_H} (hv : CW P fx mem K ad h S) (hj : JN S) : ∃ h', am_E P 66 0 [some (.ref (ad 0 0 0)), none, none, none] [] h = some (some (.int (sp_shown S).1), h') ∧ CW P fx mem K ad h' (sp_shown S).2 := by
  obtain ⟨h', e1, v1⟩ := c_showA (S.1 0 0 0) 0 0 S h none hv hj (Nat.zero_add _)
  unfold sp_shown
  rw [sp_ans_2]
  refine ⟨h', ?_, v1⟩
  refine Eq.trans ?_ e1
  simp only [r66]
  rfl
end CSo
