/-! A part is closed, a whole barrier, a mark is kept: the invariant holds on. -/
theorem JN.close {S : sp} (h : JN S) {o p : Nat} {m : Int32} (ho : o < S.1 0 0 0) (hp : p < S.1 5 o 0) (hpl : p + 1 = S.1 5 o 0) (hs : S.1 11 o p = 0) (hm0 : 0 ≤ m) (hM0 : hM S m) (hpd : PD S < 900) (ht : (sp_close S o p m).1 = true) : JN (sp_close S o p m).2 ∧ PD (sp_close S o p m).2 = PD S + 2 ∧ BT S (sp_close S o p m).2 m := by
  obtain ⟨⟨a1, a2, a3, a4, a5, a6, a7, a8, a9⟩, hpd0⟩ := id h
  have ho3 : o < 3 := by omega
  have c1 := a1.close ho a3 hp hs ht
  obtain ⟨x1, x2, x3, x4, x5, x6⟩ := sp_close_keep (S := S) (o := o) (p := p) (m := m)
  have ht1 : (sp_rec S 1 (nI o) (nI p) m (-6)).1 = true := by
    unfold sp_close at ht
    split at ht
    · assumption
    · cases ht
  have e : (sp_close S o p m).2 = sN (sN (sV (sp_rec S 1 (nI o) (nI p) m (-6)).2 13 o p m) 11 o p 1) 4 o 0 0 := by unfold sp_close; rw [if_pos ht1]
  obtain ⟨T, hT⟩ : ∃ T, T = (sp_close S o p m).2 := ⟨_, rfl⟩
  rw [← hT] at c1 x1 x2 x3 x4 x5 x6 e ⊢
  have e11 : T.1 11 o p = 1 := by rw [e]; simp [sN_1]
  have e13 : T.2 13 o p = m := by rw [e]; simp [sN_2, sV_2]
  have e11n : ∀ a b, ¬ (a = o ∧ b = p) → T.1 11 a b = S.1 11 a b := fun a b hab => by rw [e]; simp [sN_1, sV_1, hab, sr_N]
  have e13n : ∀ a b, ¬ (a = o ∧ b = p) → T.2 13 a b = S.2 13 a b := fun a b hab => by rw [e]; simp [sN_2, sV_2, hab, sr_V]
  have h1 : T.1 1 0 0 = S.1 1 0 0 + 1 := by rw [e]; simp [sN_1, sV_1, sr_nrT ht1]
  have r4' : ∀ i c, i < S.1 1 0 0 → T.2 4 i c = S.2 4 i c := fun i c hi => by rw [e]; simp [sN_2, sV_2, sr_V4 hi]
  have hdn : T.2 0 2 0 = S.2 0 2 0 := by rw [e]; simp [sN_2, sV_2, sr_dn ht1]
  have e4o : T.1 4 o 0 = 0 := by rw [e]; simp [sN_1]
  have x2 := x2 ht
  clear e hT ht ht1
  have N0 : T.1 0 0 0 = S.1 0 0 0 := x1 0 0 0 (by omega)
  have N5 : ∀ b, T.1 5 b 0 = S.1 5 b 0 := fun b => x1 5 b 0 (by omega)
  have s15 : S.1 15 o p = 0 := (a5 o p ho hp).2.2.2.2.1 (Or.inl hs)
  have hup : pn T o = pn S o + 1 := by
    have : pn S o + 1 = pn T o := pn_down (S := T) (T := S) (o := o) (p := p) (by rw [N5]; exact hp) (N5 o).symm e11 (by omega) (fun q hq => (e11n o q (by omega)).symm)
    omega
  have hPD : PD T = PD S + 2 := PD_o (d := 1) (e := 1) ho3 h1 hup (fun b hb => pn_c (N5 b) (fun q _ => e11n b q (by omega)))
  refine ⟨⟨⟨c1, x6 a2, by rw [N0]; exact a3, fun b hb => ?_, fun b q hb hq => ?_, fun b hb => ⟨?_, ?_, ?_⟩, fun b hb => ?_, by rw [x4 0 0 (by decide) (by decide) (by decide)]; exact a8, by rw [x4 0 0 (by decide) (by decide) (by decide)]; exact a9⟩, by omega⟩, hPD, ⟨fun a b c q => x1 a b c (by omega), fun b => ?_, x3, x4, Or.inl hdn, ?_⟩⟩
  · rw [N0] at hb
    rw [N5 b, x1 6 b 0 (by omega)]
    exact a4 b hb
  · rw [N0] at hb
    rw [N5 b] at hq
    have := a5 b q hb hq
    unfold iP at this ⊢
    rw [x1 10 b q (by omega), x1 15 b q (by omega), x4 0 0 (by decide) (by decide) (by decide)]
    by_cases hbq : b = o ∧ q = p
    · obtain ⟨rfl, rfl⟩ := hbq
      rw [e11, e13]
      exact ⟨this.1, this.2.1, this.2.2.1, fun z => by omega, fun z => by omega, fun _ => hm0, fun z => by omega⟩
    · rw [e11n b q hbq, e13n b q hbq]
      exact this
  · rw [N0] at hb
    intro q1 q2 hq12 hq2
    rw [N5 b] at hq2
    have := (a6 b hb).1 q1 q2 hq12 hq2
    rw [x1 15 b q2 (by omega)]
    by_cases hbq2 : b = o ∧ q2 = p
    · obtain ⟨rfl, rfl⟩ := hbq2
      rw [e13, e11n b q1 (by omega), e13n b q1 (by omega), s15]
      exact ⟨fun z _ => hM0 b q1 (by omega) z, fun z => by omega⟩
    · have hbq1 : ¬ (b = o ∧ q1 = p) := by
        rintro ⟨rfl, rfl⟩
        omega
      rw [e11n b q1 hbq1, e11n b q2 hbq2, e13n b q1 hbq1, e13n b q2 hbq2]
      exact this
  · rw [N0] at hb
    intro hz
    rw [x3 1 b 0 (by decide) (by decide) (by decide)] at hz
    have := (a6 b hb).2.1 hz
    unfold iL at this ⊢
    have f1 : ∀ b c, T.1 5 b c = S.1 5 b c := fun b c => x1 5 b c (by omega)
    have f2 : ∀ b c, T.1 6 b c = S.1 6 b c := fun b c => x1 6 b c (by omega)
    have f3 : ∀ b c, T.1 14 b c = S.1 14 b c := fun b c => x1 14 b c (by omega)
    have f4 : ∀ b c, T.1 15 b c = S.1 15 b c := fun b c => x1 15 b c (by omega)
    have f5 : ∀ b c, T.2 6 b c = S.2 6 b c := fun b c => x3 6 b c (by decide) (by decide) (by decide)
    have f6 : ∀ b c, T.2 8 b c = S.2 8 b c := fun b c => x3 8 b c (by decide) (by decide) (by decide)
    have f7 : ∀ b c, T.2 9 b c = S.2 9 b c := fun b c => x3 9 b c (by decide) (by decide) (by decide)
    simp only [f1, f2, f3, f4, f5, f6, f7]
    exact this
  · rw [N0] at hb
    intro hz
    rw [x3 1 b 0 (by decide) (by decide) (by decide)] at hz
    obtain ⟨t1, t2, t3⟩ := (a6 b hb).2.2 hz
    refine ⟨by rw [x1 6 b 0 (by omega)]; exact t1, fun y hy => ?_, fun q hq j hj => ?_⟩
    · rw [x3 10 b y (by decide) (by decide) (by decide), N5]
      rcases t2 y hy with e | ⟨q, e1, e2, e3⟩
      · exact Or.inl e
      · exact Or.inr ⟨q, e1, e2, by rw [x1 15 b q (by omega)]; exact e3⟩
    · rw [N5] at hq ⊢
      rw [x1 15 b q (by omega)] at hj
      have hPq := a5 b q hb hq
      have hlt : S.1 9 b q + j < S.1 1 0 0 := by
        have := (a1.1 b q (by omega) hq).2.2.2.2.1
        have := hPq.2.2.1
        omega
      rw [x1 9 b q (by omega), r4' _ 3 hlt, x3 10 _ _ (by decide) (by decide) (by decide)]
      exact t3 q hq j hj
  · rw [N0] at hb
    rw [x3 1 b 2 (by decide) (by decide) (by decide)]
    exact a7 b hb
  · by_cases hbo : b = o
    · subst hbo; omega
    · exact Nat.le_of_eq (x2 b 0 hbo)
  · intro b q z hq hz he
    rw [N5 b] at hq
    by_cases hbq : b = o ∧ q = p
    · obtain ⟨rfl, rfl⟩ := hbq
      left
      exact ⟨by omega, e13⟩
    · right
      exact ⟨hq, by rw [← e11n b q hbq]; exact he, e13n b q hbq⟩
theorem JN.rows {o p : Nat} {m : Int32} : ∀ (c k : Nat) (S : sp), JN S → o < S.1 0 0 0 → sp_wr S o p k → k + c ≤ 20 → (∀ j, j < k + c → 0 ≤ S.2 2 o j ∧ S.2 2 o j < 10) → PD S + c < 900 → JN (sp_rows o p c k S).2 ∧ PD (sp_rows o p c k S).2 ≤ PD S + c ∧ BT S (sp_rows o p c k S).2 m ∧ ((sp_rows o p c k S).1 = true → sp_wr (sp_rows o p c k S).2 o p (k + c)) ∧ ((sp_rows o p c k S).1 = false → (sp_rows o p c k S).2.2 0 2 0 = 1 ∧ ∀ b, (sp_rows o p c k S).2.1 4 b 0 = 0) := by
  intro c
  induction c with
  | zero => intro k S h ho hw _ _ _; exact ⟨h, Nat.le_refl _, BT.refl S m, fun _ => hw, fun q => by cases q⟩
  | succ c ih =>
    intro k S h ho hw hk hkey hpd
    unfold sp_rows
    split
    · rename_i ht
      obtain ⟨j1, j2, j3, j4⟩ := h.row (m := m) ho hw (by omega) (hkey k (by omega)) (by omega) ht
      obtain ⟨i1, i2, i3, i4, i5⟩ := ih (k + 1) (sp_row S o p k).2 j1 (by rw [j4.1 0 0 0 (by omega)]; exact ho) j2 (by omega) (fun j hj => by rw [j4.2.2.1 2 o j (by decide) (by decide) (by decide)]; exact hkey j (by omega)) (by omega)
      refine ⟨i1, by omega, j4.trans i3, fun q => ?_, i5⟩
      have := i4 q
      rwa [show k + 1 + c = k + (c + 1) by omega] at this
    · rename_i ht
      have hf : (sp_row S o p k).1 = false := by simpa using ht
      obtain ⟨e1, e2⟩ := sp_row_F hf
      have e3 := (sr_F e1)
      refine ⟨?_, ?_, ?_, fun q => (by cases q), fun _ => ?_⟩
      · show JN (sp_row S o p k).2
        rw [e2]; exact h.recF e1
      · show PD (sp_row S o p k).2 ≤ _
        rw [e2, e3.2, PD_same (sa_N (by decide)) (fun o => sa_N (by decide)) (fun o p => sa_N (by decide))]
        omega
      · show BT S (sp_row S o p k).2 m
        rw [e2]; exact BT.recF e1
      · show (sp_row S o p k).2.2 0 2 0 = 1 ∧ ∀ b, (sp_row S o p k).2.1 4 b 0 = 0
        rw [e2, e3.2]
        have h9 := e3.1
        unfold sp_act at h9 ⊢
        split
        · simp [sE_1, sE_2, sV_2]
        · rename_i q; rw [if_neg q] at h9; cases h9
/-- records, what waits, what is open -/
def PH (S : sp) : Nat := PD S + 3 * (S.1 4 0 0 + S.1 4 1 0 + S.1 4 2 0)
theorem act_dn {S : sp} (h : (sp_act S).1 = false) : (sp_act S).2.2 0 2 0 = 1 ∧ ∀ b, (sp_act S).2.1 4 b 0 = 0 := by
  unfold sp_act at h ⊢
  split
  · simp [sE_1, sE_2, sV_2]
  · rename_i q; rw [if_neg q] at h; cases h
theorem JN.barL {m : Int32} (hm0 : 0 ≤ m) : ∀ (c o w : Nat) (S : sp), JN S → o + c = S.1 0 0 0 → (∀ b, S.1 4 b 0 ≤ 20) → (∀ b j, b < 3 → j < S.1 4 b 0 → 0 ≤ S.2 2 b j ∧ S.2 2 b j < 10) → PH S < 600 → hM S m →
    JN (sp_barL m c o w S).2 ∧ PH (sp_barL m c o w S).2 ≤ PH S ∧ BT S (sp_barL m c o w S).2 m ∧ (∀ w', (sp_barL m c o w S).1 = some w' → w' ≤ w + 20 * c ∧ (sp_barL m c o w S).2.2 0 2 0 = S.2 0 2 0) ∧ ((sp_barL m c o w S).1 = none → (sp_barL m c o w S).2.2 0 2 0 = 1) := by
  intro c
  induction c with
  | zero =>
    intro o w S h ho hop hkey hph hmm
    exact ⟨h, Nat.le_refl _, BT.refl S m, fun w' q => by cases q; exact ⟨by omega, rfl⟩, fun q => by cases q⟩
  | succ c ih =>
    intro o w S h ho hop hkey hph hmm
    have h3 := h.1.2.2.1
    have ho3 : o < 3 := by omega
    unfold sp_barL
    split
    · obtain ⟨i1, i2, i3, i4, i5⟩ := ih (o + 1) w S h (by omega) hop hkey hph hmm
      exact ⟨i1, i2, i3, fun w' q => ⟨by have := (i4 w' q).1; omega, (i4 w' q).2⟩, i5⟩
    · rename_i hz
      have hopo := hop o
      have hPDo : PD S + 3 * S.1 4 o 0 < 600 := by
        unfold PH at hph
        rcases (show o = 0 ∨ o = 1 ∨ o = 2 by omega) with rfl | rfl | rfl <;> omega
      obtain ⟨j1, j2, j3, j4, j5⟩ := JN.rows (o := o) (p := S.1 5 o 0) (m := m) (S.1 4 o 0) 0 S h (by omega) (Or.inl ⟨rfl, rfl⟩) (by omega) (fun j hj => hkey o j ho3 (by omega)) (by omega)
      obtain ⟨k1, k2, k3, k4, k5, k6, k7⟩ := sp_rows_keep o (S.1 5 o 0) (S.1 4 o 0) 0 S
      split
      · rename_i hr
        obtain ⟨R, hR⟩ : ∃ R, R = (sp_rows o (S.1 5 o 0) (S.1 4 o 0) 0 S).2 := ⟨_, rfl⟩
        have w1 := j4 hr
        have k3 := k3 hr
        rw [← hR] at j1 j2 j3 k1 k2 k3 w1 ⊢
        have hw2 : S.1 5 o 0 + 1 = R.1 5 o 0 ∧ R.1 11 o (S.1 5 o 0) = 0 := by
          rcases w1 with ⟨q, -⟩ | ⟨-, q1, q2, -⟩
          · omega
          · exact ⟨q1, q2⟩
        have R0 : R.1 0 0 0 = S.1 0 0 0 := k1 0 0 0 (by omega)
        have hdnR : R.2 0 2 0 = S.2 0 2 0 := by
          have : ∀ (c k : Nat) (T : sp), (sp_rows o (S.1 5 o 0) c k T).1 = true → (sp_rows o (S.1 5 o 0) c k T).2.2 0 2 0 = T.2 0 2 0 := by
            intro c
            induction c with
            | zero => intro k T _; rfl
            | succ c ih9 =>
              intro k T hq
              unfold sp_rows at hq ⊢
              split
              · rename_i ht
                rw [if_pos ht] at hq
                rw [ih9 _ _ hq, (sp_row_T ht).2, sp_pu_V (by decide)]
                exact sr_dn (sp_row_T ht).1
              · rename_i ht
                rw [if_neg ht] at hq
                cases hq
          rw [hR]
          exact this _ _ _ hr
        split
        · rename_i hc
          obtain ⟨y1, y2, y3⟩ := j1.close (o := o) (p := S.1 5 o 0) (m := m) (by rw [R0]; omega) (by omega) hw2.1 hw2.2 hm0 (j3.hM hmm) (by omega) hc
          have hdnC : (sp_close R o (S.1 5 o 0) m).2.2 0 2 0 = R.2 0 2 0 := by
            unfold sp_close at hc ⊢
            split
            · rename_i q
              simp [sN_2, sV_2, sr_dn q]
            · rename_i q; rw [if_neg q] at hc; cases hc
          have ho4 : (sp_close R o (S.1 5 o 0) m).2.1 4 o 0 = 0 := by
            unfold sp_close at hc ⊢
            split
            · simp [sN_1]
            · rename_i q; rw [if_neg q] at hc; cases hc
          have hb4 : ∀ b, b ≠ o → (sp_close R o (S.1 5 o 0) m).2.1 4 b 0 = S.1 4 b 0 := fun b hb => by
            rw [(sp_close_keep (S := R) (o := o) (p := S.1 5 o 0) (m := m)).2.1 hc b 0 hb, k3]
          have bt := j3.trans y3
          have hph2 : PH (sp_close R o (S.1 5 o 0) m).2 ≤ PH S := by
            unfold PH
            rw [y2]
            rcases (show o = 0 ∨ o = 1 ∨ o = 2 by omega) with rfl | rfl | rfl
            · have := hb4 1 (by decide)
              have := hb4 2 (by decide)
              omega
            · have := hb4 0 (by decide)
              have := hb4 2 (by decide)
              omega
            · have := hb4 0 (by decide)
              have := hb4 1 (by decide)
              omega
          obtain ⟨i1, i2, i3, i4, i5⟩ := ih (o + 1) (w + S.1 4 o 0) (sp_close R o (S.1 5 o 0) m).2 y1 (by rw [bt.1 0 0 0 (by omega)]; omega) (fun b => Nat.le_trans (bt.2.1 b) (hop b)) (fun b j hb hj => by rw [bt.2.2.1 2 b j (by decide) (by decide) (by decide)]; exact hkey b j hb (Nat.lt_of_lt_of_le hj (bt.2.1 b))) (by omega) (bt.hM hmm)
          refine ⟨i1, by omega, bt.trans i3, fun w' q => ⟨by have := (i4 w' q).1; omega, ?_⟩, i5⟩
          rw [(i4 w' q).2, hdnC, hdnR]
        · rename_i hc
          have hcf : (sp_rec R 1 (nI o) (nI (S.1 5 o 0)) m (-6)).1 = false := by
            cases hq : (sp_rec R 1 (nI o) (nI (S.1 5 o 0)) m (-6)).1 with
            | false => rfl
            | true => exact absurd (by unfold sp_close; rw [if_pos hq]) hc
          have ec : (sp_close R o (S.1 5 o 0) m).2 = (sp_rec R 1 (nI o) (nI (S.1 5 o 0)) m (-6)).2 := by unfold sp_close; rw [if_neg (by rw [hcf]; decide)]
          have e3 := sr_F hcf
          refine ⟨?_, ?_, ?_, fun w' q => (by cases q), fun _ => ?_⟩
          · show JN (sp_close R o (S.1 5 o 0) m).2
            rw [ec]; exact j1.recF hcf
          · show PH (sp_close R o (S.1 5 o 0) m).2 ≤ PH S
            rw [ec, e3.2]
            unfold PH
            have z := (act_dn e3.1).2
            rw [z 0, z 1, z 2, PD_same (sa_N (by decide)) (fun o => sa_N (by decide)) (fun o p => sa_N (by decide))]
            rcases (show o = 0 ∨ o = 1 ∨ o = 2 by omega) with rfl | rfl | rfl <;> omega
          · show BT S (sp_close R o (S.1 5 o 0) m).2 m
            rw [ec]; exact j3.trans (BT.recF hcf)
          · show (sp_close R o (S.1 5 o 0) m).2.2 0 2 0 = 1
            rw [ec, e3.2]; exact (act_dn e3.1).1
      · rename_i hr
        have hr : (sp_rows o (S.1 5 o 0) (S.1 4 o 0) 0 S).1 = false := by simpa using hr
        obtain ⟨z1, z2⟩ := j5 hr
        refine ⟨j1, ?_, j3, fun w' q => (by cases q), fun _ => z1⟩
        show PH (sp_rows o (S.1 5 o 0) (S.1 4 o 0) 0 S).2 ≤ PH S
        unfold PH
        rw [z2 0, z2 1, z2 2]
        rcases (show o = 0 ∨ o = 1 ∨ o = 2 by omega) with rfl | rfl | rfl <;> omega
/-- a mark is kept -/
theorem JN.keep {S : sp} (h : JN S) {k m : Int32} (hk : k = 2 ∨ k = 5) (hm : S.2 0 0 0 < m) (hmx : m ≤ 1000000) (hpd : PD S < 900) (ht : (sp_rec S k (-6) (-6) m (-6)).1 = true) {T : sp} (hT : T = sV (sp_rec S k (-6) (-6) m (-6)).2 0 0 0 m ∧ k = 2 ∨ T = sV (sV (sp_rec S k (-6) (-6) m (-6)).2 0 0 0 m) 0 1 0 1 ∧ k = 5) : JN T ∧ PD T = PD S + 1 := by
  obtain ⟨⟨a1, a2, a3, a4, a5, a6, a7, a8, a9⟩, hpd0⟩ := id h
  have hco := a1.keep hk hm ht hT
  have hV : ∀ a b c, a ≠ 0 → a ≠ 4 → T.2 a b c = S.2 a b c := by
    intro a b c ha h4
    rcases hT with ⟨rfl, -⟩ | ⟨rfl, -⟩ <;> simp [sV_2, ha, sr_V ha h4]
  have hN : ∀ a b c, a ≠ 1 → T.1 a b c = S.1 a b c := by
    intro a b c ha
    rcases hT with ⟨rfl, -⟩ | ⟨rfl, -⟩ <;> exact sr_N4 ha ht
  have h1 : T.1 1 0 0 = S.1 1 0 0 + 1 := by
    rcases hT with ⟨rfl, -⟩ | ⟨rfl, -⟩ <;> exact sr_nrT ht
  have hmk : T.2 0 0 0 = m := by
    rcases hT with ⟨rfl, -⟩ | ⟨rfl, -⟩ <;> simp [sV_2]
  have r4' : ∀ i c, i < S.1 1 0 0 → T.2 4 i c = S.2 4 i c := fun i c hi => by
    rcases hT with ⟨rfl, -⟩ | ⟨rfl, -⟩ <;> simp [sV_2, sr_V4 hi]
  have hlp : sp_LP T := by
    have := sr_LP (k := k) (o := -6) (p := -6) (n := m) (v := -6) a2
    unfold sp_LP at this ⊢
    rcases hT with ⟨rfl, -⟩ | ⟨rfl, -⟩ <;> simpa [sV_2] using this
  clear hT
  have N0 : T.1 0 0 0 = S.1 0 0 0 := hN 0 0 0 (by decide)
  have N5 : ∀ b, T.1 5 b 0 = S.1 5 b 0 := fun b => hN 5 b 0 (by decide)
  have hPD : PD T = PD S + 1 := PD_o (o := 0) (d := 1) (e := 0) (by decide) h1 (pn_c (N5 0) (fun q _ => hN 11 0 q (by decide))) (fun b _ => pn_c (N5 b) (fun q _ => hN 11 b q (by decide)))
  have hle : S.2 0 0 0 ≤ m := Int32.le_of_lt hm
  refine ⟨⟨⟨hco, hlp, by rw [N0]; exact a3, fun b hb => ?_, fun b q hb hq => ?_, fun b hb => ⟨?_, ?_, ?_⟩, fun b hb => ?_, by rw [hmk]; exact Int32.le_trans a8 hle, by rw [hmk]; exact hmx⟩, by omega⟩, hPD⟩
  · rw [N0] at hb
    rw [N5 b, hN 6 b 0 (by decide)]
    exact a4 b hb
  · rw [N0] at hb
    rw [N5 b] at hq
    have := a5 b q hb hq
    unfold iP at this ⊢
    rw [hN 10 b q (by decide), hN 15 b q (by decide), hN 11 b q (by decide), hV 13 b q (by decide) (by decide), hmk]
    exact ⟨this.1, this.2.1, this.2.2.1, this.2.2.2.1, this.2.2.2.2.1, this.2.2.2.2.2.1, fun z => Int32.le_trans (this.2.2.2.2.2.2 z) hle⟩
  · rw [N0] at hb
    intro q1 q2 hq12 hq2
    rw [N5 b] at hq2
    have := (a6 b hb).1 q1 q2 hq12 hq2
    rw [hN 15 b q2 (by decide), hN 11 b q1 (by decide), hN 11 b q2 (by decide), hV 13 b q1 (by decide) (by decide), hV 13 b q2 (by decide) (by decide)]
    exact this
  · rw [N0] at hb
    intro hz
    rw [hV 1 b 0 (by decide) (by decide)] at hz
    have := (a6 b hb).2.1 hz
    unfold iL at this ⊢
    have f1 : ∀ b c, T.1 5 b c = S.1 5 b c := fun b c => hN 5 b c (by decide)
    have f2 : ∀ b c, T.1 6 b c = S.1 6 b c := fun b c => hN 6 b c (by decide)
    have f3 : ∀ b c, T.1 14 b c = S.1 14 b c := fun b c => hN 14 b c (by decide)
    have f4 : ∀ b c, T.1 15 b c = S.1 15 b c := fun b c => hN 15 b c (by decide)
    have f5 : ∀ b c, T.2 6 b c = S.2 6 b c := fun b c => hV 6 b c (by decide) (by decide)
    have f6 : ∀ b c, T.2 8 b c = S.2 8 b c := fun b c => hV 8 b c (by decide) (by decide)
    have f7 : ∀ b c, T.2 9 b c = S.2 9 b c := fun b c => hV 9 b c (by decide) (by decide)
    simp only [f1, f2, f3, f4, f5, f6, f7]
    exact this
  · rw [N0] at hb
    intro hz
    rw [hV 1 b 0 (by decide) (by decide)] at hz
    obtain ⟨t1, t2, t3⟩ := (a6 b hb).2.2 hz
    refine ⟨by rw [hN 6 b 0 (by decide)]; exact t1, fun y hy => ?_, fun q hq j hj => ?_⟩
    · rw [hV 10 b y (by decide) (by decide), N5]
      rcases t2 y hy with e | ⟨q, e1, e2, e3⟩
      · exact Or.inl e
      · exact Or.inr ⟨q, e1, e2, by rw [hN 15 b q (by decide)]; exact e3⟩
    · rw [N5] at hq ⊢
      rw [hN 15 b q (by decide)] at hj
      have hPq := a5 b q hb hq
      have hlt : S.1 9 b q + j < S.1 1 0 0 := by
        have := (a1.1 b q (by omega) hq).2.2.2.2.1
        have := hPq.2.2.1
        omega
      rw [hN 9 b q (by decide), r4' _ 3 hlt, hV 10 _ _ (by decide) (by decide)]
      exact t3 q hq j hj
  · rw [N0] at hb
    rw [hV 1 b 2 (by decide) (by decide)]
    exact a7 b hb
