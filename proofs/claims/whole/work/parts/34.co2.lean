/-! A record more: records and parts go on telling the same. -/
theorem CO.ext {S T : sp} (hc : CO S) (hr : ∀ i c, i < S.1 1 0 0 → T.2 4 i c = S.2 4 i c) (h0 : T.1 0 0 0 = S.1 0 0 0) (h1 : T.1 1 0 0 = S.1 1 0 0 + 1)
    (hp : ∀ o p, o < 3 → p < T.1 5 o 0 → co_p T o p) (hnew : ∀ o, o < 3 → T.2 4 (S.1 1 0 0) 1 = nI o → ∃ p, p < T.1 5 o 0 ∧ T.2 4 (S.1 1 0 0) 2 = nI p) (h5 : ∀ o, o < 3 → S.1 5 o 0 ≤ T.1 5 o 0 ∧ T.1 5 o 0 < 1000)
    (hcl : ((T.2 4 (S.1 1 0 0) 0 = 2 ∨ T.2 4 (S.1 1 0 0) 0 = 5) ∧ T.2 4 (S.1 1 0 0) 1 = -6 ∧ T.2 4 (S.1 1 0 0) 2 = -6) ∨ (T.2 4 (S.1 1 0 0) 0 ≠ 2 ∧ T.2 4 (S.1 1 0 0) 0 ≠ 5 ∧ ∃ o, o < S.1 0 0 0 ∧ T.2 4 (S.1 1 0 0) 1 = nI o))
    (hk : T.2 4 (S.1 1 0 0) 0 = 0 → 0 ≤ T.2 4 (S.1 1 0 0) 3 ∧ T.2 4 (S.1 1 0 0) 3 < 10) (hm : T.2 0 0 0 = q_mx T (S.1 1 0 0 + 1)) (he : T.2 0 1 0 = q_en T (S.1 1 0 0 + 1)) (hg : ∀ o, o < 3 → nI (T.1 5 o 0) = q_gv T (nI o) (S.1 1 0 0 + 1)) : CO T := by
  obtain ⟨a1, a2, a3, a4, a5, a6, a7, a8⟩ := hc
  refine ⟨hp, fun o i ho hi hio => ?_, fun o ho => (h5 o ho).2, fun i hi => ?_, fun i hi hi0 => ?_, by rw [h1]; exact hm, by rw [h1]; exact he, fun o ho => by rw [h1]; exact hg o ho⟩
  · rw [h1] at hi
    by_cases hi2 : i = S.1 1 0 0
    · subst hi2; exact hnew o ho hio
    · have hi3 : i < S.1 1 0 0 := by omega
      rw [hr i 1 hi3] at hio
      rw [hr i 2 hi3]
      obtain ⟨p, b1, b2⟩ := a2 o i ho hi3 hio
      exact ⟨p, Nat.lt_of_lt_of_le b1 (h5 o ho).1, b2⟩
  · rw [h1] at hi
    by_cases hi2 : i = S.1 1 0 0
    · subst hi2; rw [h0]; exact hcl
    · have hi3 : i < S.1 1 0 0 := by omega
      rw [hr i 0 hi3, hr i 1 hi3, hr i 2 hi3, h0]
      exact a4 i hi3
  · rw [h1] at hi
    by_cases hi2 : i = S.1 1 0 0
    · subst hi2; exact hk hi0
    · have hi3 : i < S.1 1 0 0 := by omega
      rw [hr i 0 hi3] at hi0
      rw [hr i 3 hi3]
      exact a5 i hi3 hi0
theorem nI_ne6 {a : Nat} (ha : a < 2 ^ 31) : nI a ≠ -6 := by
  intro h
  have := congrArg Int32.toInt h
  rw [nI_toInt ha, nm_m6] at this
  omega
/-- a part becomes shown (k = 3, z = 2) or gone (k = 4, z = 3) -/
theorem CO.settle {S : sp} (hc : CO S) {o p z : Nat} {k : Int32} (hkz : (k = 3 ∧ z = 2) ∨ (k = 4 ∧ z = 3)) (ho : o < S.1 0 0 0) (h3 : S.1 0 0 0 ≤ 3) (hp : p < S.1 5 o 0) (hs : S.1 11 o p ≠ 0) (ht : (sp_rec S k (nI o) (nI p) (-6) (-6)).1 = true) : CO (sN (sp_rec S k (nI o) (nI p) (-6) (-6)).2 11 o p z) := by
  obtain ⟨T, hT⟩ : ∃ T, T = sN (sp_rec S k (nI o) (nI p) (-6) (-6)).2 11 o p z := ⟨_, rfl⟩
  obtain ⟨n0, n1, n2, n3, n4⟩ := sr_new ht
  have m0 : T.2 4 (S.1 1 0 0) 0 = k := by rw [hT]; exact n0
  have m1 : T.2 4 (S.1 1 0 0) 1 = nI o := by rw [hT]; exact n1
  have m2 : T.2 4 (S.1 1 0 0) 2 = nI p := by rw [hT]; exact n2
  have hr : ∀ i c, i < S.1 1 0 0 → T.2 4 i c = S.2 4 i c := fun i c hi => by rw [hT]; exact sr_V4 hi
  have h1 : T.1 1 0 0 = S.1 1 0 0 + 1 := by rw [hT, sN_1, if_neg (by omega)]; exact sr_nrT ht
  have hb := hc.2.2.1
  have hN : ∀ a b c, a ≠ 1 → a ≠ 4 → a ≠ 11 → T.1 a b c = S.1 a b c := fun a b c e1 e2 e3 => by rw [hT, sN_1, if_neg (by omega)]; exact sr_N e1 e2
  have hN5 : ∀ a, T.1 5 a 0 = S.1 5 a 0 := fun a => hN 5 a 0 (by decide) (by decide) (by decide)
  have hV13 : ∀ a b, T.2 13 a b = S.2 13 a b := fun a b => by rw [hT]; exact sr_V (by decide) (by decide)
  have e11 : T.1 11 o p = z := by rw [hT]; simp [sN_1]
  have e11n : ∀ a b, ¬ (a = o ∧ b = p) → T.1 11 a b = S.1 11 a b := fun a b hab => by rw [hT, sN_1, if_neg (by omega)]; exact sr_N (by decide) (by decide)
  have hmk : T.2 0 0 0 = S.2 0 0 0 ∧ T.2 0 1 0 = S.2 0 1 0 := by rw [hT]; exact ⟨sr_V0 (by decide) (by decide) (by decide), sr_V0 (by decide) (by decide) (by decide)⟩
  have hk2 : k ≠ 2 ∧ k ≠ 5 ∧ k ≠ 0 ∧ k ≠ 1 := by rcases hkz with ⟨rfl, -⟩ | ⟨rfl, -⟩ <;> decide
  rw [← hT]
  clear hT n0 n1 n2 n3 n4
  refine hc.ext hr (hN 0 0 0 (by decide) (by decide) (by decide)) h1 (fun a b ha hbb => ?_) (fun a ha hq => ?_) (fun a ha => by rw [hN5 a]; exact ⟨Nat.le_refl _, hb a ha⟩) (Or.inr ⟨by rw [m0]; exact hk2.1, by rw [m0]; exact hk2.2.1, o, ho, m1⟩) (fun q => absurd (m0.symm.trans q) hk2.2.2.1) ?_ ?_ (fun a ha => ?_)
  · rw [hN5 a] at hbb
    by_cases hab : a = o ∧ b = p
    · obtain ⟨rfl, rfl⟩ := hab
      obtain ⟨b1, b2, b3, b4, b5, b6⟩ := hc.1 a b ha hbb
      have e9 : T.1 9 a b = S.1 9 a b := hN 9 a b (by decide) (by decide) (by decide)
      have e10 : T.1 10 a b = S.1 10 a b := hN 10 a b (by decide) (by decide) (by decide)
      refine ⟨?_, by rw [e11]; omega, ?_, fun i hi => ?_, by rw [h1, e9, e10]; omega, ?_⟩
      · rw [h1, e11]
        unfold q_st
        rw [if_pos ⟨m1, m2⟩, m0]
        rcases hkz with ⟨rfl, rfl⟩ | ⟨rfl, rfl⟩ <;> rfl
      · rw [h1, e11, hV13, if_neg (by omega)]
        unfold q_mk
        rw [q_mk_c hr, b3, if_neg hs]
      · rw [e9, e10]
        by_cases hi2 : i = S.1 1 0 0
        · subst hi2
          constructor
          · intro q; exact absurd (m0.symm.trans q.1) hk2.2.2.1
          · intro q; omega
        · rw [h1] at hi
          have hi3 : i < S.1 1 0 0 := by omega
          rw [hr i 0 hi3, hr i 1 hi3, hr i 2 hi3]
          exact b4 i hi3
      · rw [h1, e10]
        unfold q_rows
        rw [q_rows_c hr, b6, if_neg (fun q => hk2.2.2.1 (m0.symm.trans q.1))]
        rfl
    · refine (hc.1 a b ha hbb).other hr h1 (fun q => hab ?_) (hN 9 a b (by decide) (by decide) (by decide)) (hN 10 a b (by decide) (by decide) (by decide)) (e11n a b hab) (hV13 a b)
      obtain ⟨q1, q2⟩ := q
      rw [m1] at q1
      rw [m2] at q2
      have z1 := hb a ha
      have z2 := hb o (by omega)
      exact ⟨((nI_inj (by omega) (by omega)).mp q1).symm, ((nI_inj (by omega) (by omega)).mp q2).symm⟩
  · rw [m1] at hq
    obtain rfl := (nI_inj (by omega) (by omega)).mp hq
    rw [hN5 o]
    exact ⟨p, hp, m2⟩
  · unfold q_mx
    rw [m0, if_neg (by rintro (q | q); exact hk2.1 q; exact hk2.2.1 q), q_mx_c hr, ← hc.2.2.2.2.2.1]
    exact hmk.1
  · unfold q_en
    rw [m0, if_neg hk2.2.1, q_en_c hr, ← hc.2.2.2.2.2.2.1]
    exact hmk.2
  · rw [hN5 a]
    unfold q_gv
    have hold := hc.2.2.2.2.2.2.2 a ha
    rw [q_gv_c hr, ← hold, m0, m1, m2]
    split
    · rfl
    · rename_i hcnd
      have hao : nI o = nI a := Classical.byContradiction fun q => hcnd (Or.inr q)
      obtain rfl := (nI_inj (by omega) (by omega)).mp hao
      have z2 := hb o (by omega)
      rw [nI_1]
      split
      · rfl
      · rename_i hlt
        have : ¬ p + 1 < S.1 5 o 0 := fun q => hlt (nI_lt q (by omega))
        congr 1
        omega
/-- a mark is kept (k = 2), perhaps for the end (k = 5) -/
theorem CO.keep {S : sp} (hc : CO S) {k m : Int32} (hk : k = 2 ∨ k = 5) (hm : S.2 0 0 0 < m) (ht : (sp_rec S k (-6) (-6) m (-6)).1 = true) {T : sp} (hT : T = sV (sp_rec S k (-6) (-6) m (-6)).2 0 0 0 m ∧ k = 2 ∨ T = sV (sV (sp_rec S k (-6) (-6) m (-6)).2 0 0 0 m) 0 1 0 1 ∧ k = 5) : CO T := by
  obtain ⟨n0, n1, n2, n3, n4⟩ := sr_new ht
  have hV : ∀ a b c, a ≠ 0 → T.2 a b c = (sp_rec S k (-6) (-6) m (-6)).2.2 a b c := by
    intro a b c ha
    rcases hT with ⟨rfl, -⟩ | ⟨rfl, -⟩ <;> simp [sV_2, ha]
  have hN : ∀ a b c, T.1 a b c = (sp_rec S k (-6) (-6) m (-6)).2.1 a b c := by
    intro a b c
    rcases hT with ⟨rfl, -⟩ | ⟨rfl, -⟩ <;> rfl
  have hr : ∀ i c, i < S.1 1 0 0 → T.2 4 i c = S.2 4 i c := fun i c hi => by rw [hV 4 i c (by decide)]; exact sr_V4 hi
  have h1 : T.1 1 0 0 = S.1 1 0 0 + 1 := by rw [hN]; exact sr_nrT ht
  have hN5 : ∀ a, T.1 5 a 0 = S.1 5 a 0 := fun a => by rw [hN]; exact sr_N (by decide) (by decide)
  have hb := hc.2.2.1
  have m0 : T.2 4 (S.1 1 0 0) 0 = k := by rw [hV _ _ _ (by decide)]; exact n0
  have m1 : T.2 4 (S.1 1 0 0) 1 = -6 := by rw [hV _ _ _ (by decide)]; exact n1
  have m2 : T.2 4 (S.1 1 0 0) 2 = -6 := by rw [hV _ _ _ (by decide)]; exact n2
  have m3 : T.2 4 (S.1 1 0 0) 3 = m := by rw [hV _ _ _ (by decide)]; exact n3
  refine hc.ext hr (by rw [hN]; exact sr_N (by decide) (by decide)) h1 (fun a b ha hbb => ?_) (fun a ha hq => ?_) (fun a ha => by rw [hN5 a]; exact ⟨Nat.le_refl _, hb a ha⟩) (Or.inl ⟨by rw [m0]; exact hk, m1, m2⟩) (fun q => ?_) ?_ ?_ (fun a ha => ?_)
  · rw [hN5 a] at hbb
    refine (hc.1 a b ha hbb).other hr h1 (fun q => ?_) (by rw [hN]; exact sr_N (by decide) (by decide)) (by rw [hN]; exact sr_N (by decide) (by decide)) (by rw [hN]; exact sr_N (by decide) (by decide)) (by rw [hV _ _ _ (by decide)]; exact sr_V (by decide) (by decide))
    rw [m1] at q
    exact nI_ne6 (by omega) q.1.symm
  · rw [m1] at hq
    exact absurd hq.symm (nI_ne6 (by omega))
  · rw [m0] at q
    rcases hk with rfl | rfl <;> exact absurd q (by decide)
  · unfold q_mx
    rw [m0, m3, if_pos hk, q_mx_c hr, ← hc.2.2.2.2.2.1, if_neg (fun q => absurd q (Int32.not_lt.mpr (Int32.le_of_lt hm)))]
    rcases hT with ⟨rfl, -⟩ | ⟨rfl, -⟩ <;> simp [sV_2]
  · unfold q_en
    rw [m0, q_en_c hr, ← hc.2.2.2.2.2.2.1]
    rcases hT with ⟨rfl, rfl⟩ | ⟨rfl, rfl⟩
    · rw [if_neg (by decide)]
      simp [sV_2, sr_V0]
    · rw [if_pos rfl]
      simp [sV_2]
  · rw [hN5 a]
    unfold q_gv
    rw [m0, if_pos (Or.inl hk), q_gv_c hr]
    exact hc.2.2.2.2.2.2.2 a ha
