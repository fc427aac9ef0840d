/-! Showing all, giving up: the invariant holds on. -/
theorem JN.same {S T : sp} (h : JN S) (hN : ∀ a b c, a = 0 ∨ a = 1 ∨ a = 5 ∨ a = 6 ∨ a = 9 ∨ a = 10 ∨ a = 11 ∨ a = 14 ∨ a = 15 → T.1 a b c = S.1 a b c) (hV : ∀ a b c, a = 4 ∨ a = 6 ∨ a = 8 ∨ a = 9 ∨ a = 10 ∨ a = 13 → T.2 a b c = S.2 a b c) (hm : T.2 0 0 0 = S.2 0 0 0) (he : T.2 0 1 0 = S.2 0 1 0) (hs : ∀ o, T.2 1 o 0 = S.2 1 o 0) (hl : sp_LP T) (hf : ∀ o, o < S.1 0 0 0 → 0 ≤ T.2 1 o 2) : JN T :=
  ⟨h.1.same hN hV hm he hs hl hf, by rw [PD_same (hN 1 0 0 (by omega)) (fun o => hN 5 o 0 (by omega)) (fun o p => hN 11 o p (by omega))]; exact h.2⟩
theorem JN.try {S : sp} (h : JN S) (o : Nat) : JN (sp_try S o) := by
  refine h.same (fun a b c _ => rfl) (fun a b c ha => ?_) ?_ ?_ (fun b => ?_) ?_ (fun b hb => ?_)
  · have : ¬ a = 1 := by omega
    simp [sp_try, sV_2, this]
  · simp [sp_try, sV_2]
  · simp [sp_try, sV_2]
  · simp [sp_try, sV_2]
  · have := h.1.2.1
    unfold sp_LP at this ⊢
    simpa [sp_try, sV_2] using this
  · have := h.1.2.2.2.2.2.2.1 b hb
    simpa [sp_try, sV_2] using this
theorem ST.try (S : sp) (o : Nat) : ST S (sp_try S o) := by
  refine ⟨fun _ _ _ _ => rfl, fun _ => Nat.le_refl _, fun _ => Nat.le_refl _, fun _ _ _ => rfl, Nat.le_refl _, Nat.le_of_eq (PD_same rfl (fun _ => rfl) (fun _ _ => rfl)), fun a b i q _ => ?_, fun a b c q => ?_, fun i c _ => ?_, fun b => ?_, fun b q => ?_, fun b c _ _ _ => ?_, Or.inl ?_⟩
  · have : ¬ a = 1 := by omega
    simp [sp_try, sV_2, this]
  · have : ¬ a = 1 := by omega
    simp [sp_try, sV_2, this]
  · simp [sp_try, sV_2]
  · simp [sp_try, sV_2]
  · have e : (sp_try S o).2 1 b 2 = S.2 1 b 2 := by simp [sp_try, sV_2]
    rw [e]; exact ⟨q, Int32.le_refl _⟩
  · simp [sp_try, sV_2]
  · simp [sp_try, sV_2]
theorem fl_dn {x : Int32} (h : 0 < x) : 0 ≤ x - 1 ∧ x - 1 ≤ x := by
  rw [i_lt] at h
  rw [i_le, i_le]
  have z0 : (0 : Int32).toInt = 0 := rfl
  have z1 : (1 : Int32).toInt = 1 := rfl
  have hb := x.toInt_lt
  have : (x - 1).toInt = x.toInt - 1 := by
    rw [Int32.toInt_sub, z1]
    apply Int.bmod_eq_of_le <;> omega
  omega
theorem JN.fail {S : sp} (h : JN S) {o : Nat} (hp : 0 < S.2 1 o 2) : JN (sV (sp_try S o) 1 o 2 (S.2 1 o 2 - 1)) := by
  refine (h.try o).same (fun a b c _ => rfl) (fun a b c ha => ?_) ?_ ?_ (fun b => ?_) ?_ (fun b hb => ?_)
  · have : ¬ a = 1 := by omega
    simp [sV_2, this]
  · simp [sV_2]
  · simp [sV_2]
  · simp [sV_2]
  · have := (h.try o).1.2.1
    unfold sp_LP at this ⊢
    simpa [sV_2] using this
  · have := (h.try o).1.2.2.2.2.2.2.1 b hb
    by_cases hbo : b = o
    · subst hbo
      simp only [sV_2, and_self, if_true]
      exact (fl_dn hp).1
    · simpa [sV_2, hbo] using this
theorem ST.fail {S : sp} {o : Nat} (hp : 0 < S.2 1 o 2) : ST S (sV (sp_try S o) 1 o 2 (S.2 1 o 2 - 1)) := by
  refine ⟨fun _ _ _ _ => rfl, fun _ => Nat.le_refl _, fun _ => Nat.le_refl _, fun _ _ _ => rfl, Nat.le_refl _, Nat.le_of_eq (PD_same rfl (fun _ => rfl) (fun _ _ => rfl)), fun a b i q _ => ?_, fun a b c q => ?_, fun i c _ => ?_, fun b => ?_, fun b q => ?_, fun b c _ _ _ => ?_, Or.inl ?_⟩
  · have : ¬ a = 1 := by omega
    simp [sp_try, sV_2, this]
  · have : ¬ a = 1 := by omega
    simp [sp_try, sV_2, this]
  · simp [sp_try, sV_2]
  · simp [sp_try, sV_2]
  · by_cases hbo : b = o
    · subst hbo
      have e : (sV (sp_try S b) 1 b 2 (S.2 1 b 2 - 1)).2 1 b 2 = S.2 1 b 2 - 1 := by simp [sV_2]
      rw [e]
      exact fl_dn hp
    · have e : (sV (sp_try S o) 1 o 2 (S.2 1 o 2 - 1)).2 1 b 2 = S.2 1 b 2 := by simp [sp_try, sV_2, hbo]
      rw [e]; exact ⟨q, Int32.le_refl _⟩
  · simp [sp_try, sV_2]
  · simp [sp_try, sV_2]
/-- parts of an output are shown in their order -/
theorem hprev_le {S : sp} (h : JN S) {o p : Nat} (ho : o < S.1 0 0 0) (hp : p < S.1 5 o 0) (hs : S.1 11 o p = 1) (hpm : S.2 13 o p ≤ S.2 0 0 0) (hprev : ∀ q, q < p → S.1 11 o q ≠ 1 ∨ S.2 0 0 0 < S.2 13 o q) : ∀ q, q < p → S.1 11 o q ≠ 1 := by
  intro q hq hq1
  rcases hprev q hq with e | e
  · exact e hq1
  · have := ((h.1.2.2.2.2.2.1 o ho).1 q p hq hp).1 (Or.inl hq1) (Or.inl hs)
    have := Int32.le_trans this hpm
    exact absurd e (Int32.not_lt.mpr this)
theorem JN.showO {o : Nat} : ∀ (c p w : Nat) (S : sp), JN S → o < S.1 0 0 0 → p + c = S.1 5 o 0 → (∀ q, q < p → S.1 11 o q ≠ 1 ∨ S.2 0 0 0 < S.2 13 o q) → JN (sp_showO o c p w S).2 ∧ ST S (sp_showO o c p w S).2 := by
  intro c
  induction c with
  | zero => intro p w S h _ _ _; exact ⟨h, ST.refl S⟩
  | succ c ih =>
    intro p w S h ho hp hprev
    unfold sp_showO
    split
    · rename_i hc
      split
      · rename_i hf
        exact ⟨h.fail hf, ST.fail hf⟩
      · have ht := h.try o
        have e13 : ∀ b c, (sp_try S o).2 13 b c = S.2 13 b c := fun b c => by simp [sp_try, sV_2]
        have em : (sp_try S o).2 0 0 0 = S.2 0 0 0 := by simp [sp_try, sV_2]
        have hpv : ∀ q, q < p → (sp_try S o).1 11 o q ≠ 1 := hprev_le h ho (by omega) hc.1 hc.2 hprev
        obtain ⟨j1, j2, j3, j4, j5⟩ := ht.showP (o := o) (p := p) ho (show p < S.1 5 o 0 by omega) hc.1 (by rw [e13, em]; exact hc.2) hpv
        cases hP : sp_showP (sp_try S o) o p with
        | mk a T =>
          rw [hP] at j1 j2 j3 j4 j5
          cases a with
          | none => exact ⟨j1, (ST.try S o).trans j2⟩
          | some x =>
            simp only at j1 j2 j3 j4 j5 ⊢
            obtain ⟨i1, i2⟩ := ih (p + 1) (w + x) T j1 (by rw [j2.1 0 0 0 (by omega)]; exact ho) (by rw [j2.1 5 o 0 (by omega)]; show p + 1 + c = S.1 5 o 0; omega) (fun q hq => by
              by_cases hqp : q = p
              · subst hqp
                left
                rw [(j3 (by simp)).1]
                decide
              · left
                rw [j4 o q (by omega)]
                exact hpv q (by omega))
            exact ⟨i1, (ST.try S o).trans (j2.trans i2)⟩
    · rename_i hc
      refine ih (p + 1) w S h ho (by omega) (fun q hq => ?_)
      by_cases hqp : q = p
      · subst hqp
        by_cases h1 : S.1 11 o q = 1
        · right
          exact Int32.not_le.mp (fun e => hc ⟨h1, e⟩)
        · exact Or.inl h1
      · exact hprev q (by omega)
theorem JN.showA : ∀ (c o w : Nat) (S : sp), JN S → o + c = S.1 0 0 0 → JN (sp_showA c o w S).2 ∧ ST S (sp_showA c o w S).2 := by
  intro c
  induction c with
  | zero => intro o w S h _; exact ⟨h, ST.refl S⟩
  | succ c ih =>
    intro o w S h ho
    unfold sp_showA
    obtain ⟨j1, j2⟩ := JN.showO (o := o) (S.1 5 o 0) 0 w S h (by omega) (Nat.zero_add _) (fun q hq => by omega)
    cases hO : sp_showO o (S.1 5 o 0) 0 w S with
    | mk a T =>
      rw [hO] at j1 j2
      cases a with
      | none => exact ⟨j1, j2⟩
      | some x =>
        simp only at j1 j2 ⊢
        obtain ⟨i1, i2⟩ := ih (o + 1) x T j1 (by rw [j2.1 0 0 0 (by omega)]; omega)
        exact ⟨i1, j2.trans i2⟩
theorem sp_ans_2 (q : Option Nat × sp) : (sp_ans q).2 = q.2 := by
  rcases q with ⟨_ | w, T⟩ <;> rfl
theorem JN.shown {S : sp} (h : JN S) : JN (sp_shown S).2 ∧ ST S (sp_shown S).2 := by
  unfold sp_shown
  rw [sp_ans_2]
  exact JN.showA _ _ _ S h (Nat.zero_add _)
/-- parts from a mark on are given up -/
theorem JN.goes1 {S : sp} {o p : Nat} (h : JN S) (ho : o < S.1 0 0 0) (hp : p < S.1 5 o 0) (hs : S.1 11 o p = 1) (hm : S.2 0 0 0 < S.2 13 o p) (ht : (sp_rec S 4 (nI o) (nI p) (-6) (-6)).1 = true) : JN (sN (sp_rec S 4 (nI o) (nI p) (-6) (-6)).2 11 o p 3) := by
  refine h.settle (Or.inr ⟨rfl, rfl, ?_⟩) ho hp hs ht
  have := (h.1.2.2.2.2.1 o p ho hp).2.2.2.2.2.2
  refine Classical.byContradiction fun hne => ?_
  exact absurd hm (Int32.not_lt.mpr (this (by omega)))
theorem JN.goes {o : Nat} {m : Int32} : ∀ (c p w : Nat) (S : sp), JN S → o < S.1 0 0 0 → p + c = S.1 5 o 0 → S.2 0 0 0 < m → JN (sp_goes o m c p w S).2 ∧ ST S (sp_goes o m c p w S).2 ∧ ((sp_goes o m c p w S).1 ≠ none → (∀ b d, S.1 11 b d = 1 → (sp_goes o m c p w S).2.1 11 b d = 1 → ¬ (b = o ∧ p ≤ d ∧ d < S.1 5 o 0 ∧ m ≤ S.2 13 b d)) ∧ (∀ b, (sp_goes o m c p w S).2.1 4 b 0 = S.1 4 b 0)) := by
  intro c
  induction c with
  | zero =>
    intro p w S h _ hp _
    refine ⟨h, ST.refl S, fun _ => ⟨fun b d _ _ q => ?_, fun _ => rfl⟩⟩
    obtain ⟨rfl, q1, q2, q3⟩ := q
    omega
  | succ c ih =>
    intro p w S h ho hp hm
    have h3 := h.1.2.2.1
    unfold sp_goes
    split
    · rename_i hc
      split
      · rename_i ht
        have j1 := h.goes1 ho (by omega) hc.1 (by rw [i_lt] at hm ⊢; have := i_le.mp hc.2; omega) ht
        have j2 := ST.settle (S := S) (o := o) (p := p) (z := 3) (k := 4) (by omega) (by omega) hc.1 (by decide) ht
        obtain ⟨i1, i2, i3⟩ := ih (p + 1) (w + S.1 10 o p) _ j1 (by rw [j2.1 0 0 0 (by omega)]; exact ho) (by rw [j2.1 5 o 0 (by omega)]; omega) (by rw [j2.2.2.2.2.2.2.2.2.2.2.2.1 0 0 (by decide) (by decide) (by decide)]; exact hm)
        refine ⟨i1, j2.trans i2, fun hn => ⟨fun b d hb1 hb2 q => ?_, fun b => ?_⟩⟩
        · obtain ⟨rfl, q1, q2, q3⟩ := q
          by_cases hdp : d = p
          · subst hdp
            have e3 : (sN (sp_rec S 4 (nI b) (nI d) (-6) (-6)).2 11 b d 3).1 11 b d = 3 := by simp [sN_1]
            have := i2.2.2.2.1 b d (by rw [e3]; decide)
            rw [e3] at this
            rw [this] at hb2
            exact absurd hb2 (by decide)
          · refine (i3 hn).1 b d ?_ hb2 ⟨rfl, by omega, ?_, ?_⟩
            · rw [sN_1, if_neg (by omega), sr_N (by decide) (by decide)]; exact hb1
            · rw [j2.1 5 b 0 (by omega)]; exact q2
            · rw [j2.2.2.2.2.2.2.2.1 13 b d (by omega)]; exact q3
        · rw [(i3 hn).2 b, sN_1, if_neg (by omega), sr_N4 (by decide) ht]
      · rename_i ht
        have hf : (sp_rec S 4 (nI o) (nI p) (-6) (-6)).1 = false := by simpa using ht
        exact ⟨h.recF hf, ST.recF hf, fun q => absurd rfl q⟩
    · rename_i hc
      obtain ⟨i1, i2, i3⟩ := ih (p + 1) w S h ho (by omega) hm
      refine ⟨i1, i2, fun hn => ⟨fun b d hb1 hb2 q => ?_, (i3 hn).2⟩⟩
      obtain ⟨rfl, q1, q2, q3⟩ := q
      by_cases hdp : d = p
      · subst hdp
        exact hc ⟨hb1, q3⟩
      · exact (i3 hn).1 b d hb1 hb2 ⟨rfl, by omega, q2, q3⟩
theorem JN.op0 {S : sp} (h : JN S) (o : Nat) : JN (sN S 4 o 0 0) := by
  refine h.same (fun a b c ha => ?_) (fun a b c _ => rfl) rfl rfl (fun _ => rfl) h.1.2.1 h.1.2.2.2.2.2.2.1
  rw [sN_1, if_neg (by omega)]
theorem ST.op0 (S : sp) (o : Nat) : ST S (sN S 4 o 0 0) := by
  refine ⟨fun a b c q => by rw [sN_1, if_neg (by omega)], fun b => ?_, fun b => by rw [sN_1, if_neg (by omega)]; exact Nat.le_refl _, fun b c _ => by rw [sN_1, if_neg (by omega)], by rw [sN_1, if_neg (by omega)]; exact Nat.le_refl _, Nat.le_of_eq (PD_same (by rw [sN_1, if_neg (by omega)]) (fun o => by rw [sN_1, if_neg (by omega)]) (fun o p => by rw [sN_1, if_neg (by omega)])), fun _ _ _ _ _ => rfl, fun _ _ _ _ => rfl, fun _ _ _ => rfl, fun _ => rfl, fun _ h => ⟨h, Int32.le_refl _⟩, fun _ _ _ _ _ => rfl, Or.inl rfl⟩
  rw [sN_1]
  split <;> omega
theorem JN.giveL {m : Int32} : ∀ (c o w : Nat) (S : sp), JN S → o + c = S.1 0 0 0 → S.2 0 0 0 < m → JN (sp_giveL m c o w S).2 ∧ ST S (sp_giveL m c o w S).2 ∧ ((sp_giveL m c o w S).1 ≠ none → (∀ b d, S.1 11 b d = 1 → (sp_giveL m c o w S).2.1 11 b d = 1 → ¬ (o ≤ b ∧ b < S.1 0 0 0 ∧ d < S.1 5 b 0 ∧ m ≤ S.2 13 b d))) := by
  intro c
  induction c with
  | zero =>
    intro o w S h ho _
    exact ⟨h, ST.refl S, fun _ b d _ _ q => by omega⟩
  | succ c ih =>
    intro o w S h ho hm
    unfold sp_giveL
    obtain ⟨j1, j2, j3⟩ := JN.goes (o := o) (m := m) (S.1 5 o 0) 0 0 S h (by omega) (Nat.zero_add _) hm
    cases hO : sp_goes o m (S.1 5 o 0) 0 0 S with
    | mk a T =>
      rw [hO] at j1 j2 j3
      cases a with
      | none => exact ⟨j1, j2, fun q => absurd rfl q⟩
      | some x =>
        simp only at j1 j2 j3 ⊢
        have s2 := j2.trans (ST.op0 T o)
        obtain ⟨i1, i2, i3⟩ := ih (o + 1) (w + (x + T.1 4 o 0)) _ (j1.op0 o) (by rw [s2.1 0 0 0 (by omega)]; omega) (by rw [s2.2.2.2.2.2.2.2.2.2.2.2.1 0 0 (by decide) (by decide) (by decide)]; exact hm)
        refine ⟨i1, s2.trans i2, fun hn b d hb1 hb2 q => ?_⟩
        have hT1 : (sN T 4 o 0 0).1 11 b d = 1 := by
          refine Classical.byContradiction fun q9 => ?_
          have := i2.2.2.2.1 b d q9
          rw [this] at hb2
          exact q9 hb2
        by_cases hbo : b = o
        · subst hbo
          have hT2 : T.1 11 b d = 1 := by rw [sN_1, if_neg (by omega)] at hT1; exact hT1
          exact (j3 (by simp)).1 b d hb1 hT2 ⟨rfl, Nat.zero_le _, q.2.2.1, q.2.2.2⟩
        · exact i3 hn b d hT1 hb2 ⟨by omega, by rw [s2.1 0 0 0 (by omega)]; exact q.2.1, by rw [s2.1 5 b 0 (by omega)]; exact q.2.2.1, by rw [s2.2.2.2.2.2.2.2.1 13 b d (by omega)]; exact q.2.2.2⟩
theorem JN.openG {m : Int32} : ∀ (c o : Nat) (S : sp), JN S → o + c = S.1 0 0 0 → S.2 0 0 0 < m → JN (sp_openG c o m S) ∧ ST S (sp_openG c o m S) := by
  intro c
  induction c with
  | zero => intro o S h _ _; exact ⟨h, ST.refl S⟩
  | succ c ih =>
    intro o S h ho hm
    unfold sp_openG
    obtain ⟨j1, j2, j3⟩ := JN.goes (o := o) (m := m) (S.1 5 o 0) 0 0 S h (by omega) (Nat.zero_add _) hm
    obtain ⟨i1, i2⟩ := ih (o + 1) _ j1 (by rw [j2.1 0 0 0 (by omega)]; omega) (by rw [j2.2.2.2.2.2.2.2.2.2.2.2.1 0 0 (by decide) (by decide) (by decide)]; exact hm)
    exact ⟨i1, j2.trans i2⟩
theorem sp_drop_keep {m : Int32} : ∀ (c : Nat) (S : sp), (∀ a b d, a ≠ 2 → (sp_drop m c S).1 a b d = S.1 a b d) ∧ (sp_drop m c S).2 = S.2 := by
  intro c
  induction c with
  | zero => intro S; exact ⟨fun _ _ _ _ => rfl, rfl⟩
  | succ c ih =>
    intro S
    unfold sp_drop
    split
    · obtain ⟨i1, i2⟩ := ih (sN S 2 0 0 c)
      exact ⟨fun a b d ha => by rw [i1 a b d ha, sN_1, if_neg (by omega)], i2⟩
    · exact ⟨fun _ _ _ _ => rfl, rfl⟩
theorem JN.drop {S : sp} (h : JN S) (m : Int32) (c : Nat) : JN (sp_drop m c S) := by
  obtain ⟨k1, k2⟩ := sp_drop_keep (m := m) c S
  refine h.same (fun a b c ha => k1 a b c (by omega)) (fun a b c _ => by rw [k2]) (by rw [k2]) (by rw [k2]) (fun o => by rw [k2]) ?_ (fun o ho => by rw [k2]; exact h.1.2.2.2.2.2.2.1 o ho)
  have := h.1.2.1
  unfold sp_LP at this ⊢
  rw [k2]
  exact this
theorem JN.up {S : sp} (h : JN S) : JN (sp_up S) := by
  refine h.same (fun a b c ha => ?_) (fun a b c ha => ?_) ?_ ?_ (fun b => ?_) ?_ (fun b hb => ?_)
  · unfold sp_up; rw [sE_1, if_neg (by omega)]; rfl
  · have : ¬ a = 0 := by omega
    simp [sp_up, sE_2, sV_2, this]
  · simp [sp_up, sE_2, sV_2]
  · simp [sp_up, sE_2, sV_2]
  · simp [sp_up, sE_2, sV_2]
  · left; simp [sp_up, sE_2, sV_2]
  · have := h.1.2.2.2.2.2.2.1 b hb
    simpa [sp_up, sE_2, sV_2] using this
