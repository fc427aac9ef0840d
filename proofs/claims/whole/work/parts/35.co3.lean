/-! Rows of a part, and its closing: records and parts go on telling the same. -/
theorem q_fresh {S : sp} {o p : Int32} : ∀ {n : Nat}, (∀ i, i < n → ¬ (S.2 4 i 1 = o ∧ S.2 4 i 2 = p)) → q_st S o p n = 0 ∧ q_mk S o p n = none ∧ q_rows S o p n = 0 := by
  intro n
  induction n with
  | zero => intro _; exact ⟨rfl, rfl, rfl⟩
  | succ n ih =>
    intro h
    obtain ⟨i1, i2, i3⟩ := ih (fun i hi => h i (by omega))
    have hn := h n (by omega)
    refine ⟨?_, ?_, ?_⟩
    · unfold q_st; rw [if_neg hn]; exact i1
    · unfold q_mk; rw [i2]; simp only; rw [if_neg (fun q => hn q.2)]
    · unfold q_rows; rw [i3, if_neg (fun q => hn q.2)]
/-- of the part that is being written -/
def sp_wr (S : sp) (o p k : Nat) : Prop := (k = 0 ∧ p = S.1 5 o 0) ∨ (0 < k ∧ p + 1 = S.1 5 o 0 ∧ S.1 11 o p = 0 ∧ S.1 9 o p + S.1 10 o p = S.1 1 0 0 ∧ S.1 10 o p = k)
theorem CO.row {S : sp} (hc : CO S) {o p k : Nat} (ho : o < S.1 0 0 0) (h3 : S.1 0 0 0 ≤ 3) (hw : sp_wr S o p k) (hgv : S.1 5 o 0 + 1 < 1000) (hkey : 0 ≤ S.2 2 o k ∧ S.2 2 o k < 10) (ht : (sp_row S o p k).1 = true) : CO (sp_row S o p k).2 ∧ sp_wr (sp_row S o p k).2 o p (k + 1) := by
  obtain ⟨ht1, hT⟩ := sp_row_T ht
  obtain ⟨T, hTT⟩ : ∃ T, T = (sp_row S o p k).2 := ⟨_, rfl⟩
  rw [← hTT] at hT ⊢
  obtain ⟨n0, n1, n2, n3, n4⟩ := sr_new ht1
  have hV : ∀ a b c, a ≠ 13 → T.2 a b c = (sp_rec S 0 (nI o) (nI p) (S.2 2 o k) (S.2 3 o k)).2.2 a b c := fun a b c ha => by rw [hT]; exact sp_pu_V ha
  have m0 : T.2 4 (S.1 1 0 0) 0 = 0 := by rw [hV _ _ _ (by decide)]; exact n0
  have m1 : T.2 4 (S.1 1 0 0) 1 = nI o := by rw [hV _ _ _ (by decide)]; exact n1
  have m2 : T.2 4 (S.1 1 0 0) 2 = nI p := by rw [hV _ _ _ (by decide)]; exact n2
  have m3 : T.2 4 (S.1 1 0 0) 3 = S.2 2 o k := by rw [hV _ _ _ (by decide)]; exact n3
  have hr : ∀ i c, i < S.1 1 0 0 → T.2 4 i c = S.2 4 i c := fun i c hi => by rw [hV _ _ _ (by decide)]; exact sr_V4 hi
  have h1 : T.1 1 0 0 = S.1 1 0 0 + 1 := by rw [hT, sp_pu_N (by omega)]; exact sr_nrT ht1
  have h0 : T.1 0 0 0 = S.1 0 0 0 := by rw [hT, sp_pu_N (by omega)]; exact sr_N (by decide) (by decide)
  have e5 : T.1 5 o 0 = p + 1 := by rw [hT]; simp [sp_pu, sN_1]
  have e5n : ∀ a, a ≠ o → T.1 5 a 0 = S.1 5 a 0 := fun a ha => by
    rw [hT]; unfold sp_pu; split <;> simp [sN_1, sV_1, ha, sr_N]
  have e10 : T.1 10 o p = k + 1 := by rw [hT]; simp [sp_pu, sN_1]
  have eN : ∀ a b c, (a = 9 ∨ a = 10 ∨ a = 11) → ¬ (b = o ∧ c = p) → T.1 a b c = S.1 a b c := fun a b c ha hbc => by
    have q15 : ¬ a = 15 := by omega
    have q5 : ¬ a = 5 := by omega
    rw [hT]; unfold sp_pu
    split <;> simp [sN_1, sV_1, hbc, q15, q5, sr_N (show a ≠ 1 by omega) (show a ≠ 4 by omega)]
  have e13n : ∀ b c, ¬ (b = o ∧ c = p) → T.2 13 b c = S.2 13 b c := fun b c hbc => by
    rw [hT]; unfold sp_pu
    split <;> simp [sN_2, sV_2, hbc, sr_V]
  have e9 : T.1 9 o p = if k = 0 then S.1 1 0 0 else S.1 9 o p := by
    rw [hT]; unfold sp_pu
    split <;> simp [sN_1, sV_1, sr_N, sr_nrT ht1]
  have e11 : T.1 11 o p = 0 := by
    rw [hT]; unfold sp_pu
    split
    · simp [sN_1]
    · rename_i hk0
      rcases hw with ⟨q, -⟩ | ⟨-, -, q, -⟩
      · exact absurd q hk0
      · simp [sN_1, sr_N, q]
  have hb := hc.2.2.1
  have ho3 : o < 3 := by omega
  have hmk : T.2 0 0 0 = S.2 0 0 0 ∧ T.2 0 1 0 = S.2 0 1 0 := ⟨by rw [hV _ _ _ (by decide)]; exact sr_V0 (by decide) (by decide) (by decide), by rw [hV _ _ _ (by decide)]; exact sr_V0 (by decide) (by decide) (by decide)⟩
  have hp5 : p + 1 = S.1 5 o 0 + 1 ∧ k = 0 ∨ p + 1 = S.1 5 o 0 ∧ k ≠ 0 := by
    rcases hw with ⟨q1, q2⟩ | ⟨q1, q2, -⟩
    · left; omega
    · right; omega
  clear hT hTT ht n0 n1 n2 n3 n4
  have hf : k = 0 → ∀ i, i < S.1 1 0 0 → ¬ (S.2 4 i 1 = nI o ∧ S.2 4 i 2 = nI p) := by
    intro hk0 i hi q
    obtain ⟨p', b1, b2⟩ := hc.2.1 o i ho3 hi q.1
    have z := hb o ho3
    have hpp : p = S.1 5 o 0 := by
      rcases hw with ⟨-, q2⟩ | ⟨q1, -⟩
      · exact q2
      · omega
    have := (nI_inj (a := p') (b := p) (by omega) (by omega)).mp (b2.symm.trans q.2)
    omega
  refine ⟨?_, Or.inr ⟨by omega, by rw [e5], e11, ?_, e10⟩⟩
  · refine hc.ext hr h0 h1 (fun a b ha hbb => ?_) (fun a ha hq => ?_) (fun a ha => ?_) (Or.inr ⟨by rw [m0]; decide, by rw [m0]; decide, o, ho, m1⟩) (fun _ => by rw [m3]; exact hkey) ?_ ?_ (fun a ha => ?_)
    · by_cases hab : a = o ∧ b = p
      · obtain ⟨rfl, rfl⟩ := hab
        by_cases hk0 : k = 0
        · obtain ⟨f1, f2, f3⟩ := q_fresh (hf hk0)
          rw [if_pos hk0] at e9
          refine ⟨?_, by rw [e11]; omega, ?_, fun i hi => ?_, by rw [h1, e9, e10]; omega, ?_⟩
          · rw [h1, e11]
            unfold q_st
            rw [if_pos ⟨m1, m2⟩, m0, q_st_c hr, f1]
            rfl
          · rw [h1, e11, if_pos rfl]
            unfold q_mk
            rw [q_mk_c hr, f2, m0]
            rfl
          · rw [e9, e10]
            by_cases hi2 : i = S.1 1 0 0
            · subst hi2
              exact ⟨fun _ => by omega, fun _ => ⟨m0, m1, m2⟩⟩
            · rw [h1] at hi
              have hi3 : i < S.1 1 0 0 := by omega
              rw [hr i 0 hi3, hr i 1 hi3, hr i 2 hi3]
              exact ⟨fun q => absurd q.2 (hf hk0 i hi3), fun q => by omega⟩
          · rw [h1, e10]
            unfold q_rows
            rw [q_rows_c hr, f3, if_pos ⟨m0, m1, m2⟩, hk0]
        · rw [if_neg hk0] at e9
          have hw2 : b + 1 = S.1 5 a 0 ∧ S.1 11 a b = 0 ∧ S.1 9 a b + S.1 10 a b = S.1 1 0 0 ∧ S.1 10 a b = k := by
            rcases hw with ⟨q, -⟩ | ⟨-, q⟩
            · exact absurd q hk0
            · exact q
          obtain ⟨w1, w2, w3, w4⟩ := hw2
          obtain ⟨b1, b2, b3, b4, b5, b6⟩ := hc.1 a b ha (by omega)
          refine ⟨?_, by rw [e11]; omega, ?_, fun i hi => ?_, by rw [h1, e9, e10]; omega, ?_⟩
          · rw [h1, e11]
            unfold q_st
            rw [if_pos ⟨m1, m2⟩, m0, q_st_c hr, b1, w2]
            rfl
          · rw [h1, e11, if_pos rfl]
            rw [w2, if_pos rfl] at b3
            unfold q_mk
            rw [q_mk_c hr, b3, m0]
            rfl
          · rw [e9, e10]
            by_cases hi2 : i = S.1 1 0 0
            · subst hi2
              exact ⟨fun _ => by omega, fun _ => ⟨m0, m1, m2⟩⟩
            · rw [h1] at hi
              have hi3 : i < S.1 1 0 0 := by omega
              rw [hr i 0 hi3, hr i 1 hi3, hr i 2 hi3, b4 i hi3]
              omega
          · rw [h1, e10]
            unfold q_rows
            rw [q_rows_c hr, b6, if_pos ⟨m0, m1, m2⟩, w4]
      · have hbS : b < S.1 5 a 0 := by
          by_cases hao : a = o
          · subst hao
            rw [e5] at hbb
            omega
          · rw [e5n a hao] at hbb; exact hbb
        refine (hc.1 a b ha hbS).other hr h1 (fun q => hab ?_) (eN 9 a b (by omega) hab) (eN 10 a b (by omega) hab) (eN 11 a b (by omega) hab) (e13n a b hab)
        obtain ⟨q1, q2⟩ := q
        rw [m1] at q1
        rw [m2] at q2
        have z1 := hb a ha
        have z2 := hb o ho3
        exact ⟨((nI_inj (by omega) (by omega)).mp q1).symm, ((nI_inj (by omega) (by omega)).mp q2).symm⟩
    · rw [m1] at hq
      obtain rfl := (nI_inj (by omega) (by omega)).mp hq
      exact ⟨p, by rw [e5]; omega, m2⟩
    · by_cases hao : a = o
      · subst hao
        rw [e5]
        omega
      · rw [e5n a hao]
        exact ⟨Nat.le_refl _, hb a ha⟩
    · unfold q_mx
      rw [m0, if_neg (by decide), q_mx_c hr, ← hc.2.2.2.2.2.1]
      exact hmk.1
    · unfold q_en
      rw [m0, if_neg (by decide), q_en_c hr, ← hc.2.2.2.2.2.2.1]
      exact hmk.2
    · unfold q_gv
      have hold := hc.2.2.2.2.2.2.2 a ha
      rw [q_gv_c hr, ← hold, m0, m1, m2]
      split
      · rename_i hcnd
        have hao : a ≠ o := by
          rintro rfl
          rcases hcnd with (q | q) | q
          · exact absurd q (by decide)
          · exact absurd q (by decide)
          · exact q rfl
        rw [e5n a hao]
      · rename_i hcnd
        have hao : nI o = nI a := Classical.byContradiction fun q => hcnd (Or.inr q)
        obtain rfl := (nI_inj (by omega) (by omega)).mp hao
        have z2 := hb o ho3
        rw [nI_1, e5]
        split
        · rename_i hlt
          have := (nI_ltI (by omega) (by omega)).mp hlt
          omega
        · rfl
  · rw [h1, e9, e10]
    split
    · rename_i hk0; omega
    · rename_i hk0
      rcases hw with ⟨q, -⟩ | ⟨-, -, -, w3, w4⟩
      · exact absurd q hk0
      · omega
theorem CO.close {S : sp} (hc : CO S) {o p : Nat} {m : Int32} (ho : o < S.1 0 0 0) (h3 : S.1 0 0 0 ≤ 3) (hp : p < S.1 5 o 0) (hs : S.1 11 o p = 0) (ht : (sp_close S o p m).1 = true) : CO (sp_close S o p m).2 := by
  have ht1 : (sp_rec S 1 (nI o) (nI p) m (-6)).1 = true := by
    unfold sp_close at ht
    split at ht
    · assumption
    · cases ht
  obtain ⟨T, hT⟩ : ∃ T, T = (sp_close S o p m).2 := ⟨_, rfl⟩
  rw [← hT]
  have e : (sp_close S o p m).2 = sN (sN (sV (sp_rec S 1 (nI o) (nI p) m (-6)).2 13 o p m) 11 o p 1) 4 o 0 0 := by unfold sp_close; rw [if_pos ht1]
  rw [e] at hT
  obtain ⟨n0, n1, n2, n3, n4⟩ := sr_new ht1
  have hV : ∀ a b c, a ≠ 13 → T.2 a b c = (sp_rec S 1 (nI o) (nI p) m (-6)).2.2 a b c := fun a b c ha => by rw [hT]; simp [sN_2, sV_2, ha]
  have m0 : T.2 4 (S.1 1 0 0) 0 = 1 := by rw [hV _ _ _ (by decide)]; exact n0
  have m1 : T.2 4 (S.1 1 0 0) 1 = nI o := by rw [hV _ _ _ (by decide)]; exact n1
  have m2 : T.2 4 (S.1 1 0 0) 2 = nI p := by rw [hV _ _ _ (by decide)]; exact n2
  have m3 : T.2 4 (S.1 1 0 0) 3 = m := by rw [hV _ _ _ (by decide)]; exact n3
  have hr : ∀ i c, i < S.1 1 0 0 → T.2 4 i c = S.2 4 i c := fun i c hi => by rw [hV _ _ _ (by decide)]; exact sr_V4 hi
  have h1 : T.1 1 0 0 = S.1 1 0 0 + 1 := by rw [hT]; simp [sN_1, sV_1, sr_nrT ht1]
  have hN : ∀ a b c, a ≠ 1 → a ≠ 4 → a ≠ 11 → T.1 a b c = S.1 a b c := fun a b c e1 e2 e3 => by rw [hT]; simp [sN_1, sV_1, e2, e3, sr_N e1 e2]
  have hN5 : ∀ a, T.1 5 a 0 = S.1 5 a 0 := fun a => hN 5 a 0 (by decide) (by decide) (by decide)
  have e11 : T.1 11 o p = 1 := by rw [hT]; simp [sN_1]
  have e13 : T.2 13 o p = m := by rw [hT]; simp [sN_2, sV_2]
  have e11n : ∀ a b, ¬ (a = o ∧ b = p) → T.1 11 a b = S.1 11 a b := fun a b hab => by rw [hT]; simp [sN_1, sV_1, hab, sr_N]
  have e13n : ∀ a b, ¬ (a = o ∧ b = p) → T.2 13 a b = S.2 13 a b := fun a b hab => by rw [hT]; simp [sN_2, sV_2, hab, sr_V]
  have hmk : T.2 0 0 0 = S.2 0 0 0 ∧ T.2 0 1 0 = S.2 0 1 0 := ⟨by rw [hV _ _ _ (by decide)]; exact sr_V0 (by decide) (by decide) (by decide), by rw [hV _ _ _ (by decide)]; exact sr_V0 (by decide) (by decide) (by decide)⟩
  have hb := hc.2.2.1
  clear hT e ht n0 n1 n2 n3 n4
  refine hc.ext hr (hN 0 0 0 (by decide) (by decide) (by decide)) h1 (fun a b ha hbb => ?_) (fun a ha hq => ?_) (fun a ha => by rw [hN5 a]; exact ⟨Nat.le_refl _, hb a ha⟩) (Or.inr ⟨by rw [m0]; decide, by rw [m0]; decide, o, ho, m1⟩) (fun q => absurd (m0.symm.trans q) (by decide)) ?_ ?_ (fun a ha => ?_)
  · rw [hN5 a] at hbb
    by_cases hab : a = o ∧ b = p
    · obtain ⟨rfl, rfl⟩ := hab
      obtain ⟨b1, b2, b3, b4, b5, b6⟩ := hc.1 a b ha hbb
      have e9 : T.1 9 a b = S.1 9 a b := hN 9 a b (by decide) (by decide) (by decide)
      have e10 : T.1 10 a b = S.1 10 a b := hN 10 a b (by decide) (by decide) (by decide)
      refine ⟨?_, by rw [e11]; omega, ?_, fun i hi => ?_, by rw [h1, e9, e10]; omega, ?_⟩
      · rw [h1, e11]
        unfold q_st
        rw [if_pos ⟨m1, m2⟩, m0]
        rfl
      · rw [h1, e11, e13, if_neg (by decide)]
        rw [hs, if_pos rfl] at b3
        unfold q_mk
        rw [q_mk_c hr, b3]
        simp only
        rw [if_pos ⟨m0, m1, m2⟩, m3]
      · rw [e9, e10]
        by_cases hi2 : i = S.1 1 0 0
        · subst hi2
          constructor
          · intro q; exact absurd (m0.symm.trans q.1) (by decide)
          · intro q; omega
        · rw [h1] at hi
          have hi3 : i < S.1 1 0 0 := by omega
          rw [hr i 0 hi3, hr i 1 hi3, hr i 2 hi3]
          exact b4 i hi3
      · rw [h1, e10]
        unfold q_rows
        rw [q_rows_c hr, b6, if_neg (fun q => absurd (m0.symm.trans q.1) (by decide))]
        rfl
    · refine (hc.1 a b ha hbb).other hr h1 (fun q => hab ?_) (hN 9 a b (by decide) (by decide) (by decide)) (hN 10 a b (by decide) (by decide) (by decide)) (e11n a b hab) (e13n a b hab)
      obtain ⟨q1, q2⟩ := q
      rw [m1] at q1
      rw [m2] at q2
      have z1 := hb a ha
      have z2 := hb o (by omega)
      exact ⟨((nI_inj (by omega) (by omega)).mp q1).symm, ((nI_inj (by omega) (by omega)).mp q2).symm⟩
  · rw [m1] at hq
    obtain rfl := (nI_inj (by omega) (by omega)).mp hq
    rw [hN5 o]
    exact ⟨p, hp, m2⟩
  · unfold q_mx
    rw [m0, if_neg (by decide), q_mx_c hr, ← hc.2.2.2.2.2.1]
    exact hmk.1
  · unfold q_en
    rw [m0, if_neg (by decide), q_en_c hr, ← hc.2.2.2.2.2.2.1]
    exact hmk.2
  · rw [hN5 a]
    unfold q_gv
    have hold := hc.2.2.2.2.2.2.2 a ha
    rw [q_gv_c hr, ← hold, m0, m1, m2]
    split
    · rfl
    · rename_i hcnd
      have hao : nI o = nI a := Classical.byContradiction fun q => hcnd (Or.inr q)
      obtain rfl := (nI_inj (by omega) (by omega)).mp hao
      have z2 := hb o (by omega)
      rw [nI_1]
      split
      · rfl
      · rename_i hlt
        have : ¬ p + 1 < S.1 5 o 0 := fun q => hlt (nI_lt q (by omega))
        congr 1
        omega
