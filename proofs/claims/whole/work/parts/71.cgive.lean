/-! The class: parts are given up. -/
section CGv
variable {P : Nat × Nat} {fx : Nat → Prop} {mem : Nat → am_C} {K : Nat × Nat} {ad : Nat → Nat → Nat → Nat}
theorem c_goes {o : Nat} {m : Int32} : ∀ (c p w : Nat) (S : sp) (h : am_H) (l5 : Option Value), CW P fx mem K ad h S → JN S → o < S.1 0 0 0 → p + c = S.1 5 o 0 → S.2 0 0 0 < m →
    ∃ h', am_E P 70 5 [some (.ref (ad 0 0 0)), some (.ref (ad 9 o 0)), some (.int m), some (.int (nI w)), some (.int (nI p)), l5] [] h = some (some (.int (sp_ans (sp_goes o m c p w S)).1), h') ∧ CW P fx mem K ad h' (sp_goes o m c p w S).2 ∧ (∀ x, (sp_goes o m c p w S).1 = some x → x ≤ w + 20 * c) := by
  intro c
  induction c with
  | zero =>
    intro p w S h l5 hv hj ho hpc hm
    have hg : S.1 5 o 0 < 1000 := hj.1.1.2.2.1 o (by have := hj.1.2.2.1; omega)
    have c1 : nI (S.1 5 o 0) ≤ nI p := nI_le (by omega) (by omega)
    refine ⟨h, ?_, hv, fun x hx => ?_⟩
    · rw [hd70_5]
      simp only [r70, o10 (hv.ou ho), Option.bind_some, hv.szP ho, if_true, Option.toList, List.nil_append, List.cons_append, if_pos c1]
      rfl
    · have : some w = some x := hx
      simp at this
      omega
  | succ c ih =>
    intro p w S h l5 hv hj ho hpc hm
    have h3 : S.1 0 0 0 ≤ 3 := hj.1.2.2.1
    have hg : S.1 5 o 0 < 1000 := hj.1.1.2.2.1 o (by omega)
    have hp : p < S.1 5 o 0 := by omega
    have c1 : ¬ nI (S.1 5 o 0) ≤ nI p := nI_ge hp (by omega)
    have h20 : S.1 10 o p ≤ 20 := (hj.1.2.2.2.2.1 o p ho hp).2.1
    obtain ⟨x, y, hpt⟩ := hv.pt ho hp
    have h11 := (hj.1.1.1 o p (by omega) hp).2.1
    have em : nI (S.1 11 o p) = 1 ↔ S.1 11 o p = 1 := nI_eq (a := S.1 11 o p) (b := 1) (by omega) (by decide)
    have c01 : ¬ (1 : Int32) = 0 := by decide
    by_cases hc : S.1 11 o p = 1 ∧ m ≤ S.2 13 o p
    · have hmk : (if S.1 11 o p = 0 then -6 else S.2 13 o p) = S.2 13 o p := if_neg (by omega)
      rw [hmk] at hpt
      have c2 : nI (S.1 11 o p) = 1 := em.mpr hc.1
      obtain ⟨h1, e1, v1⟩ := c_rec hv h3 (by have := hj.nr; omega) 4 (nI o) (nI p) (-6) (-6)
      by_cases ht : (sp_rec S 4 (nI o) (nI p) (-6) (-6)).1 = true
      · have er : sp_goes o m (c + 1) p w S = sp_goes o m c (p + 1) (w + S.1 10 o p) (sN (sp_rec S 4 (nI o) (nI p) (-6) (-6)).2 11 o p 3) := by
          conv => lhs; unfold sp_goes
          rw [if_pos hc, if_pos ht]
        rw [er]
        rw [if_pos ht] at e1
        have hlt : S.2 0 0 0 < S.2 13 o p := Int32.lt_of_lt_of_le hm hc.2
        have hj1 := hj.goes1 ho hp hc.1 hlt ht
        have ho1 : o < (sp_rec S 4 (nI o) (nI p) (-6) (-6)).2.1 0 0 0 := by rw [sr_N (by decide) (by decide)]; exact ho
        have q5 : (sp_rec S 4 (nI o) (nI p) (-6) (-6)).2.1 5 o 0 = S.1 5 o 0 := sr_N (by decide) (by decide)
        have q10 : (sp_rec S 4 (nI o) (nI p) (-6) (-6)).2.1 10 o p = S.1 10 o p := sr_N (by decide) (by decide)
        have hp1 : p < (sp_rec S 4 (nI o) (nI p) (-6) (-6)).2.1 5 o 0 := by rw [q5]; exact hp
        have hs1 : (sp_rec S 4 (nI o) (nI p) (-6) (-6)).2.1 11 o p = 1 := by rw [sr_N (by decide) (by decide)]; exact hc.1
        have qm : (sp_rec S 4 (nI o) (nI p) (-6) (-6)).2.2 0 0 0 = S.2 0 0 0 := sr_V0 (by decide) (by decide) (by decide)
        obtain ⟨x1, y1, hpt1⟩ := v1.pt ho1 hp1
        generalize (sp_rec S 4 (nI o) (nI p) (-6) (-6)).2 = T at *
        have v2 := v1.put 20 o p (fun _ => rfl) ⟨ho1, hp1⟩ (S' := sN T 11 o p 3) (fun _ => SO.n11) (c := ac_O 5 [.int (nI p), .int (nI (T.1 9 o p)), .int (nI (T.1 10 o p)), .int (if T.1 11 o p = 0 then -6 else T.2 13 o p), .int 3, .int x1, .int y1]) (fun ae => ⟨x1, y1, by simp [sN_1, sN_2, hs1]; rfl⟩) rfl rfl
        obtain ⟨h', e2, v3, b3⟩ := ih (p + 1) (w + S.1 10 o p) _ _ (some (.ref (ad 20 o p))) v2 hj1 ho1 (by show p + 1 + c = T.1 5 o 0; omega) (by show T.2 0 0 0 < m; rw [qm]; exact hm)
        refine ⟨h', ?_, v3, fun x' hx' => by have := b3 x' hx'; omega⟩
        refine Eq.trans ?_ e2
        conv => lhs; rw [hd70_5]
        simp only [r70, o10 (hv.ou ho), Option.bind_some, hv.szP ho, if_true, Option.toList, List.nil_append, List.cons_append, if_neg c1, hv.getP ho hp, o7 hpt, if_pos c2, if_pos hc.2, cl_of hv.x, e1, if_neg c01, o7 hpt1, o7 (ah_same h1 (ad 20 o p) _), q10, nI_add, nI_1]
      · have er : sp_goes o m (c + 1) p w S = (none, (sp_rec S 4 (nI o) (nI p) (-6) (-6)).2) := by
          conv => lhs; unfold sp_goes
          rw [if_pos hc, if_neg ht]
        rw [er]
        rw [if_neg ht] at e1
        refine ⟨h1, ?_, v1, fun x hx => by cases hx⟩
        rw [hd70_5]
        simp only [r70, o10 (hv.ou ho), Option.bind_some, hv.szP ho, if_true, Option.toList, List.nil_append, List.cons_append, if_neg c1, hv.getP ho hp, o7 hpt, if_pos c2, if_pos hc.2, cl_of hv.x, e1]
        rfl
    · have er : sp_goes o m (c + 1) p w S = sp_goes o m c (p + 1) w S := by
        conv => lhs; unfold sp_goes
        rw [if_neg hc]
      rw [er]
      obtain ⟨h', e3, v3, b3⟩ := ih (p + 1) w S h (some (.ref (ad 20 o p))) hv hj ho (by omega) hm
      refine ⟨h', ?_, v3, fun x' hx' => by have := b3 x' hx'; omega⟩
      refine Eq.trans ?_ e3
      conv => lhs; rw [hd70_5]
      by_cases h1 : S.1 11 o p = 1
      · have c2 : nI (S.1 11 o p) = 1 := em.mpr h1
        have hmk : (if S.1 11 o p = 0 then -6 else S.2 13 o p) = S.2 13 o p := if_neg (by omega)
        rw [hmk] at hpt
        have c3 : ¬ m ≤ S.2 13 o p := fun e => hc ⟨h1, e⟩
        simp only [r70, o10 (hv.ou ho), Option.bind_some, hv.szP ho, if_true, Option.toList, List.nil_append, List.cons_append, if_neg c1, hv.getP ho hp, o7 hpt, if_pos c2, if_neg c3, nI_1]
      · have c2 : ¬ nI (S.1 11 o p) = 1 := fun e => h1 (em.mp e)
        simp only [r70, o10 (hv.ou ho), Option.bind_some, hv.szP ho, if_true, Option.toList, List.nil_append, List.cons_append, if_neg c1, hv.getP ho hp, o7 hpt, if_neg c2, nI_1]
theorem c_giveL {m : Int32} : ∀ (c o w : Nat) (S : sp) (h : am_H) (l4 l5 : Option Value), CW P fx mem K ad h S → JN S → o + c = S.1 0 0 0 → S.2 0 0 0 < m →
    ∃ h', am_E P 69 4 [some (.ref (ad 0 0 0)), some (.int m), some (.int (nI w)), some (.int (nI o)), l4, l5] [] h = some (some (.int (sp_ans (sp_giveL m c o w S)).1), h') ∧ CW P fx mem K ad h' (sp_giveL m c o w S).2 := by
  intro c
  induction c with
  | zero =>
    intro o w S h l4 l5 hv hj hoc hm
    have h3 : S.1 0 0 0 ≤ 3 := hj.1.2.2.1
    have c1 : nI (S.1 0 0 0) ≤ nI o := nI_le (by omega) (by omega)
    refine ⟨h, ?_, hv⟩
    rw [hd69_4]
    simp only [r69, o9 hv.x, Option.bind_some, hv.szO, if_true, Option.toList, List.nil_append, List.cons_append, if_pos c1]
    rfl
  | succ c ih =>
    intro o w S h l4 l5 hv hj hoc hm
    have h3 : S.1 0 0 0 ≤ 3 := hj.1.2.2.1
    have ho : o < S.1 0 0 0 := by omega
    have hg : S.1 5 o 0 < 1000 := hj.1.1.2.2.1 o (by omega)
    have c1 : ¬ nI (S.1 0 0 0) ≤ nI o := nI_ge ho (by omega)
    obtain ⟨j1, j2, -⟩ := JN.goes (o := o) (m := m) (S.1 5 o 0) 0 0 S hj ho (Nat.zero_add _) hm
    obtain ⟨h1, e1, v1, b1⟩ := c_goes (o := o) (m := m) (S.1 5 o 0) 0 0 S h none hv hj ho (Nat.zero_add _) hm
    have e0 : am_E P 70 0 [some (.ref (ad 0 0 0)), some (.ref (ad 9 o 0)), some (.int m), none, none, none] [] h = some (some (.int (sp_ans (sp_goes o m (S.1 5 o 0) 0 0 S)).1), h1) := by
      refine Eq.trans ?_ e1
      simp only [r70]
      rfl
    have er : sp_giveL m (c + 1) o w S = match sp_goes o m (S.1 5 o 0) 0 0 S with
        | (none, T) => (none, T)
        | (some x, T) => sp_giveL m c (o + 1) (w + (x + T.1 4 o 0)) (sN T 4 o 0 0) := by
      conv => lhs; unfold sp_giveL
      rfl
    rw [er]
    generalize sp_goes o m (S.1 5 o 0) 0 0 S = R at *
    obtain ⟨a, T⟩ := R
    cases a with
    | none =>
      refine ⟨h1, ?_, v1⟩
      have e0 : am_E P 70 0 [some (.ref (ad 0 0 0)), some (.ref (ad 9 o 0)), some (.int m), none, none, none] [] h = some (some (.int (-5)), h1) := e0
      rw [hd69_4]
      simp only [r69, o9 hv.x, Option.bind_some, hv.szO, if_true, Option.toList, List.nil_append, List.cons_append, if_neg c1, hv.getO ho h3, o10 (hv.ou ho), e0]
      rfl
    | some x =>
      have e0 : am_E P 70 0 [some (.ref (ad 0 0 0)), some (.ref (ad 9 o 0)), some (.int m), none, none, none] [] h = some (some (.int (nI x)), h1) := e0
      have hx := b1 x rfl
      have c5 : ¬ nI x = -5 := ans_n5 (by omega)
      simp only at j1 j2 v1
      have h0e : T.1 0 0 0 = S.1 0 0 0 := j2.1 0 0 0 (by omega)
      have ho1 : o < T.1 0 0 0 := by omega
      have hmk : T.2 0 0 0 = S.2 0 0 0 := j2.2.2.2.2.2.2.2.2.2.2.2.1 0 0 (by decide) (by decide) (by decide)
      have v2 := v1.put 9 o 0 (fun _ => rfl) ⟨ho1, rfl⟩ (S' := sN T 4 o 0 0) (fun _ => SO.n4 (Nat.zero_le _)) (c := ac_O 4 [.int (nI o), .int (T.2 1 o 0), .ref (ad 10 o 0), .ref (ad 11 o 0), .int 0, .ref (ad 12 o 0), .int (T.2 1 o 1), .int (T.2 1 o 2), .ref (ad 14 o 0), .ref (ad 16 o 0)]) (fun ae => by
        show _ = ac_O 4 [.int (nI o), .int (T.2 1 o 0), .ref (ad 10 o 0), .ref (ad 11 o 0), .int (nI ((sN T 4 o 0 0).1 4 o 0)), .ref (ad 12 o 0), .int (T.2 1 o 1), .int (T.2 1 o 2), .ref (ad 14 o 0), .ref (ad 16 o 0)]
        rw [sN_1, if_pos ⟨rfl, rfl, rfl⟩]; rfl) rfl rfl
      obtain ⟨h', e2, v3⟩ := ih (o + 1) (w + (x + T.1 4 o 0)) (sN T 4 o 0 0) _ (some (.ref (ad 9 o 0))) (some (.int (nI x))) v2 (j1.op0 o) (by show o + 1 + c = T.1 0 0 0; omega) (by show T.2 0 0 0 < m; rw [hmk]; exact hm)
      refine ⟨h', ?_, v3⟩
      refine Eq.trans ?_ e2
      conv => lhs; rw [hd69_4]
      simp only [r69, o9 hv.x, Option.bind_some, hv.szO, if_true, Option.toList, List.nil_append, List.cons_append, if_neg c1, hv.getO ho h3, o10 (hv.ou ho), e0, if_neg c5, o10 (v1.ou ho1), nI_add, nI_1]
theorem c_giveF {m : Int32} {S : sp} {h : am_H} (hv : CW P fx mem K ad h S) (hj : JN S) (hm : S.2 0 0 0 < m) : ∃ h', am_E P 69 0 [some (.ref (ad 0 0 0)), some (.int m), none, none, none, none] [] h = some (some (.int (sp_ans (sp_giveL m (S.1 0 0 0) 0 0 S)).1), h') ∧ CW P fx mem K ad h' (sp_giveL m (S.1 0 0 0) 0 0 S).2 := by
  obtain ⟨h', e1, v1⟩ := c_giveL (S.1 0 0 0) 0 0 S h none none hv hj (Nat.zero_add _) hm
  refine ⟨h', ?_, v1⟩
  refine Eq.trans ?_ e1
  simp only [r69]
  rfl
end CGv
