/-! Each call keeps the invariant. -/
theorem ix_some {o : Int32} {n k : Nat} (h : am_ix o n = some k) : k < n ∧ (n < 2 ^ 31 → o = nI k) := by
  unfold am_ix at h
  split at h
  · rename_i hc
    cases h
    have hk : ((o.toNatClampNeg : Nat) : Int) = o.toInt := by
      have : o.toNatClampNeg = o.toInt.toNat := rfl
      rw [this]
      omega
    refine ⟨by omega, fun hn => ?_⟩
    rw [i_eq, nI_toInt (by omega)]
    exact hk.symm
  · cases h
theorem ix_none {o : Int32} {n : Nat} (h : am_ix o n = none) : ¬ (0 ≤ o.toInt ∧ o.toInt < n) := by
  unfold am_ix at h
  split at h
  · cases h
  · assumption
theorem KJ.output {S : sp} {c : Nat} {x : Int32} (h : KJ S c) (h3 : S.1 0 0 0 ≠ 3) (hx : x = 0 ∨ x = 1) : KJ (sN (sV S 1 (S.1 0 0 0) 0 x) 0 0 0 (S.1 0 0 0 + 1)) c := by
  obtain ⟨⟨⟨i1, i2, i3, i4, i5, i6, i7, i8, i9⟩, a1⟩, a2, a3, a4, a5, a6, a7, a8, a9, a10, a11⟩ := h
  obtain ⟨T, hT⟩ : ∃ T, T = sN (sV S 1 (S.1 0 0 0) 0 x) 0 0 0 (S.1 0 0 0 + 1) := ⟨_, rfl⟩
  have N0 : T.1 0 0 0 = S.1 0 0 0 + 1 := by rw [hT]; simp [sN_1]
  have hN : ∀ a b d, a ≠ 0 → T.1 a b d = S.1 a b d := fun a b d ha => by rw [hT]; simp [sN_1, sV_1, ha]
  have hV : ∀ a b d, ¬ (a = 1 ∧ b = S.1 0 0 0 ∧ d = 0) → T.2 a b d = S.2 a b d := fun a b d ha => by rw [hT, sN_2, sV_2, if_neg ha]
  have hs : T.2 1 (S.1 0 0 0) 0 = x := by rw [hT]; simp [sN_2, sV_2]
  rw [← hT]
  clear hT
  obtain ⟨g5, g6⟩ := i4 (S.1 0 0 0) (Nat.le_refl _)
  obtain ⟨y1, y2, y3, y4⟩ := a7 (S.1 0 0 0) (Nat.le_refl _)
  have hN5 : ∀ o, T.1 5 o 0 = S.1 5 o 0 := fun o => hN 5 o 0 (by decide)
  have hco : CO T := by
    obtain ⟨c1, c2, c3, c4, c5, c6, c7, c8⟩ := i1
    have hr : ∀ i d, i < S.1 1 0 0 → T.2 4 i d = S.2 4 i d := fun i d _ => hV 4 i d (by omega)
    have h1 : T.1 1 0 0 = S.1 1 0 0 := hN 1 0 0 (by decide)
    refine ⟨fun o p ho hp => ?_, fun o i ho hi => ?_, fun o ho => by rw [hN5]; exact c3 o ho, fun i hi => ?_, fun i hi => ?_, ?_, ?_, fun o ho => ?_⟩
    · rw [hN5] at hp
      obtain ⟨b1, b2, b3, b4, b5, b6⟩ := c1 o p ho hp
      refine ⟨?_, by rw [hN 11 o p (by decide)]; exact b2, ?_, fun i hi => ?_, by rw [h1, hN 9 o p (by decide), hN 10 o p (by decide)]; exact b5, ?_⟩
      · rw [h1, hN 11 o p (by decide), q_st_c hr]; exact b1
      · rw [h1, hN 11 o p (by decide), hV 13 o p (by omega), q_mk_c hr]; exact b3
      · rw [h1] at hi
        rw [hr i 0 hi, hr i 1 hi, hr i 2 hi, hN 9 o p (by decide), hN 10 o p (by decide)]
        exact b4 i hi
      · rw [h1, hN 10 o p (by decide), q_rows_c hr]; exact b6
    · rw [h1] at hi
      rw [hr i 1 hi, hr i 2 hi, hN5]
      exact c2 o i ho hi
    · rw [h1] at hi
      rw [hr i 0 hi, hr i 1 hi, hr i 2 hi, N0]
      rcases c4 i hi with e | ⟨e1, e2, o, e3, e4⟩
      · exact Or.inl e
      · exact Or.inr ⟨e1, e2, o, by omega, e4⟩
    · rw [h1] at hi
      rw [hr i 0 hi, hr i 3 hi]
      exact c5 i hi
    · rw [hV 0 0 0 (by omega), h1, q_mx_c hr]; exact c6
    · rw [hV 0 1 0 (by omega), h1, q_en_c hr]; exact c7
    · rw [hN5, h1, q_gv_c hr]; exact c8 o ho
  have hPD : PD T = PD S := PD_same (hN 1 0 0 (by decide)) hN5 (fun o p => hN 11 o p (by decide))
  have hold : ∀ o, o < T.1 0 0 0 → o ≠ S.1 0 0 0 → o < S.1 0 0 0 := fun o ho hne => by omega
  refine ⟨⟨⟨hco, ?_, by omega, fun o ho => ?_, fun o p ho hp => ?_, fun o ho => ?_, fun o ho => ?_, by rw [hV 0 0 0 (by omega)]; exact i8, by rw [hV 0 0 0 (by omega)]; exact i9⟩, by rw [hPD]; exact a1⟩, ?_, by rw [hN 2 0 0 (by decide)]; exact a3, by rw [hV 0 5 0 (by omega)]; exact a4, fun o => by rw [hN 4 o 0 (by decide)]; exact a5 o, fun o j ho hj => by rw [hV 2 o j (by omega)]; rw [hN 4 o 0 (by decide)] at hj; exact a6 o j ho hj, fun o ho => ?_, fun i hi => ?_, by rw [hV 0 2 0 (by omega)]; exact a9, fun o ho => ?_, by rw [hN 3 0 0 (by decide)]; exact a11.1, fun r hr => ?_⟩
  · unfold sp_LP at i2 ⊢
    rw [hV 0 3 0 (by omega)]
    exact i2
  · rw [hN5, hN 6 o 0 (by decide)]
    exact i4 o (by omega)
  · rw [hN5] at hp
    by_cases hoo : o = S.1 0 0 0
    · subst hoo; omega
    · have := i5 o p (hold o ho hoo) hp
      unfold iP at this ⊢
      rw [hN 10 o p (by decide), hN 15 o p (by decide), hN 11 o p (by decide), hV 13 o p (by omega), hV 0 0 0 (by omega)]
      exact this
  · by_cases hoo : o = S.1 0 0 0
    · subst hoo
      refine ⟨fun p q _ hq => ?_, fun _ => ⟨fun p hp => ?_, fun i hi => ?_, fun p q _ hq => ?_, ?_, fun i hi => ?_⟩, fun _ => ⟨?_, fun k hk => ?_, fun p hp => ?_⟩⟩
      · rw [hN5] at hq; omega
      · rw [hN5] at hp; omega
      · rw [hN 6 _ 0 (by decide)] at hi; omega
      · rw [hN5] at hq; omega
      · rw [hN 6 _ 0 (by decide), hN5, g5, g6]; rfl
      · rw [hN 6 _ 0 (by decide)] at hi; omega
      · rw [hN 6 _ 0 (by decide)]; exact g6
      · left
        rw [hV 10 _ k (by omega)]
        exact (y4 k hk).1
      · rw [hN5] at hp; omega
    · obtain ⟨b1, b2, b3⟩ := i6 o (hold o ho hoo)
      refine ⟨fun p q hpq hq => ?_, fun hz => ?_, fun hz => ?_⟩
      · rw [hN5] at hq
        have := b1 p q hpq hq
        rw [hN 11 o p (by decide), hN 11 o q (by decide), hN 15 o q (by decide), hV 13 o p (by omega), hV 13 o q (by omega)]
        exact this
      · rw [hV 1 o 0 (by omega)] at hz
        have := b2 hz
        unfold iL at this ⊢
        have e5 := hN5 o
        have e6 := hN 6 o 0 (by decide)
        have e14 : ∀ p, T.1 14 o p = S.1 14 o p := fun p => hN 14 o p (by decide)
        have e15 : ∀ p, T.1 15 o p = S.1 15 o p := fun p => hN 15 o p (by decide)
        have v6 : ∀ i, T.2 6 o i = S.2 6 o i := fun i => hV 6 o i (by omega)
        have v8 : ∀ i, T.2 8 o i = S.2 8 o i := fun i => hV 8 o i (by omega)
        have v9 : ∀ i, T.2 9 o i = S.2 9 o i := fun i => hV 9 o i (by omega)
        simp only [e5, e6, e14, e15, v6, v8, v9]
        exact this
      · rw [hV 1 o 0 (by omega)] at hz
        have := b3 hz
        unfold iT at this ⊢
        have e5 := hN5 o
        have e6 := hN 6 o 0 (by decide)
        have e9 : ∀ p, T.1 9 o p = S.1 9 o p := fun p => hN 9 o p (by decide)
        have e15 : ∀ p, T.1 15 o p = S.1 15 o p := fun p => hN 15 o p (by decide)
        have v4 : ∀ i c, T.2 4 i c = S.2 4 i c := fun i c => hV 4 i c (by omega)
        have v10 : ∀ i, T.2 10 o i = S.2 10 o i := fun i => hV 10 o i (by omega)
        simp only [e5, e6, e9, e15, v4, v10]
        exact this
  · rw [hV 1 o 2 (by omega)]
    by_cases hoo : o = S.1 0 0 0
    · subst hoo; rw [y3]; exact Int32.le_refl _
    · exact i7 o (hold o ho hoo)
  · unfold PH at a2 ⊢
    rw [hPD, hN 4 0 0 (by decide), hN 4 1 0 (by decide), hN 4 2 0 (by decide)]
    exact a2
  · obtain ⟨z1, z2, z3, z4⟩ := a7 o (by omega)
    refine ⟨by rw [hN 4 o 0 (by decide)]; exact z1, by rw [hV 1 o 1 (by omega)]; exact z2, by rw [hV 1 o 2 (by omega)]; exact z3, fun k hk => ?_⟩
    rw [hV 10 o k (by omega), hV 11 o k (by omega), hV 12 o k (by omega)]
    exact z4 k hk
  · rw [hN 2 0 0 (by decide)] at hi ⊢
    rw [hV 5 i 0 (by omega), hV 5 (i + 1) 0 (by omega)]
    exact a8 i hi
  · rw [hV 1 o 2 (by omega)]
    by_cases hoo : o = S.1 0 0 0
    · subst hoo; rw [hs, y3]; exact ⟨hx, by decide⟩
    · rw [hV 1 o 0 (by omega)]
      exact a10 o (hold o ho hoo)
  · rw [hN 3 0 0 (by decide)] at hr
    obtain ⟨z1, z2, z3⟩ := a11.2 r hr
    rw [hN 7 r 0 (by decide), hN 8 r 0 (by decide), hN 6 _ 0 (by decide), hV 1 (S.1 7 r 0) 0 (by omega)]
    exact ⟨by omega, z2, z3⟩
/-- what KJ and KL don't see, or see the same -/
theorem KI.output {S : sp} {c : Nat} {x : Int32} (h : KI S c) : KI (sp_output S x).2 (c + 1) := by
  unfold sp_output
  split
  · exact h.mono
  · rename_i hx
    split
    · exact h.mono
    · split
      · exact h.mono
      · split
        · exact h.mono
        · rename_i h3
          refine ⟨(h.1.output h3 ?_).mono, fun hd o p hp h1 => ?_⟩
          · by_cases h0 : x = 0
            · exact Or.inl h0
            · by_cases h1 : x = 1
              · exact Or.inr h1
              · exact absurd ⟨h0, h1⟩ hx
          · exact h.2 hd o p hp h1
theorem KI.same {S T : sp} {c : Nat} (h : KI S c) (hN : ∀ a b d, a = 0 ∨ a = 1 ∨ a = 2 ∨ a = 4 ∨ a = 5 ∨ a = 6 ∨ a = 9 ∨ a = 10 ∨ a = 11 ∨ a = 14 ∨ a = 15 → T.1 a b d = S.1 a b d) (hV : ∀ a b d, a ≠ 0 → a ≠ 1 → T.2 a b d = S.2 a b d) (hV0 : ∀ b d, b ≠ 3 → T.2 0 b d = S.2 0 b d) (hs : ∀ o, T.2 1 o 0 = S.2 1 o 0) (h11 : ∀ o, T.2 1 o 1 = S.2 1 o 1) (hl : sp_LP T) (hf : ∀ o, T.2 1 o 2 = S.2 1 o 2 ∨ (o < S.1 0 0 0 ∧ 0 ≤ T.2 1 o 2 ∧ T.2 1 o 2 ≤ 100)) (hr : T.1 3 0 0 ≤ 4 ∧ ∀ r, r < T.1 3 0 0 → T.1 7 r 0 < S.1 0 0 0 ∧ S.2 1 (T.1 7 r 0) 0 = 0 ∧ T.1 8 r 0 ≤ S.1 6 (T.1 7 r 0) 0) : KI T c := by
  obtain ⟨⟨a1, a2, a3, a4, a5, a6, a7, a8, a9, a10, a11⟩, hk⟩ := h
  have N0 := hN 0 0 0 (by omega)
  refine ⟨⟨a1.same (fun a b d q => hN a b d (by omega)) (fun a b d q => hV a b d (by omega) (by omega)) (hV0 0 0 (by decide)) (hV0 1 0 (by decide)) hs hl (fun o ho => ?_), ?_, by rw [hN 2 0 0 (by omega)]; exact a3, by rw [hV0 5 0 (by decide)]; exact a4, fun o => by rw [hN 4 o 0 (by omega)]; exact a5 o, fun o j ho hj => by rw [hV 2 o j (by decide) (by decide)]; rw [hN 4 o 0 (by omega)] at hj; exact a6 o j ho hj, fun o ho => ?_, fun i hi => ?_, by rw [hV0 2 0 (by decide)]; exact a9, fun o ho => ?_, hr.1, fun r hr9 => ?_⟩, fun hd o p hp h1 => ?_⟩
  · rcases hf o with e | e
    · rw [e]; exact a1.1.2.2.2.2.2.2.1 o ho
    · exact e.2.1
  · unfold PH at a2 ⊢
    rw [PD_same (hN 1 0 0 (by omega)) (fun o => hN 5 o 0 (by omega)) (fun o p => hN 11 o p (by omega)), hN 4 0 0 (by omega), hN 4 1 0 (by omega), hN 4 2 0 (by omega)]
    exact a2
  · rw [N0] at ho
    obtain ⟨z1, z2, z3, z4⟩ := a7 o ho
    refine ⟨by rw [hN 4 o 0 (by omega)]; exact z1, by rw [h11]; exact z2, ?_, fun k hk => ?_⟩
    · rcases hf o with e | e
      · rw [e]; exact z3
      · omega
    · rw [hV 10 o k (by decide) (by decide), hV 11 o k (by decide) (by decide), hV 12 o k (by decide) (by decide)]
      exact z4 k hk
  · rw [hN 2 0 0 (by omega)] at hi ⊢
    rw [hV 5 i 0 (by decide) (by decide), hV 5 (i + 1) 0 (by decide) (by decide)]
    exact a8 i hi
  · rw [N0] at ho
    rw [hs]
    refine ⟨(a10 o ho).1, ?_⟩
    rcases hf o with e | e
    · rw [e]; exact (a10 o ho).2
    · exact e.2.2
  · obtain ⟨z1, z2, z3⟩ := hr.2 r hr9
    rw [N0, hs, hN 6 _ 0 (by omega)]
    exact ⟨z1, z2, z3⟩
  · rw [hV0 2 0 (by decide)] at hd
    rw [hN 5 o 0 (by omega)] at hp
    rw [hN 11 o p (by omega)] at h1
    rw [hV 13 o p (by decide) (by decide), hV0 0 0 (by decide), hN 2 0 0 (by omega)]
    rcases hk hd o p hp h1 with e | ⟨i, i1, i2⟩
    · exact Or.inl e
    · exact Or.inr ⟨i, i1, by rw [hV 5 i 0 (by decide) (by decide)]; exact i2⟩
theorem KI.fails {S : sp} {c : Nat} {o n : Int32} (h : KI S c) : KI (sp_fails S o n).2 (c + 1) := by
  unfold sp_fails
  split
  · exact h.mono
  · rename_i o' ho
    split
    · exact h.mono
    · rename_i hn
      refine KI.mono (h.same (fun _ _ _ _ => rfl) (fun a b d _ h1 => ?_) (fun b d _ => ?_) (fun b => ?_) (fun b => ?_) ?_ (fun b => ?_) h.1.2.2.2.2.2.2.2.2.2.2)
      · simp [sV_2, h1]
      · simp [sV_2]
      · simp [sV_2]
      · simp [sV_2]
      · have := h.1.1.1.2.1
        unfold sp_LP at this ⊢
        simpa [sV_2] using this
      · by_cases hb : b = o'
        · subst hb
          right
          have e : (sV S 1 b 2 n).2 1 b 2 = n := by simp [sV_2]
          rw [e]
          exact ⟨(ix_some ho).1, Int32.not_lt.mp (fun q => hn (Or.inl q)), Int32.not_lt.mp (fun q => hn (Or.inr q))⟩
        · left
          simp [sV_2, hb]
theorem KI.power {S : sp} {c : Nat} {k : Int32} (h : KI S c) : KI (sp_power S k).2 (c + 1) := by
  unfold sp_power
  split
  · exact h.mono
  · rename_i hk
    split
    · exact h.mono
    · refine KI.mono (h.same (fun _ _ _ _ => rfl) (fun a b d h0 _ => ?_) (fun b d h3 => ?_) (fun b => ?_) (fun b => ?_) ?_ (fun b => ?_) h.1.2.2.2.2.2.2.2.2.2.2)
      · simp [sV_2, h0]
      · simp [sV_2, h3]
      · simp [sV_2]
      · simp [sV_2]
      · unfold sp_LP
        have e : (sV S 0 3 0 (if k = -6 then 0 else k)).2 0 3 0 = if k = -6 then 0 else k := by simp [sV_2]
        rw [e]
        by_cases h6 : k = -6
        · left; rw [if_pos h6]
        · right
          rw [if_neg h6]
          have : ¬ k < 1 := fun q => hk ⟨h6, Or.inl q⟩
          rw [i_lt] at this ⊢
          have z0 : (0 : Int32).toInt = 0 := rfl
          have z1 : (1 : Int32).toInt = 1 := rfl
          omega
      · left; simp [sV_2]
theorem KI.reader {S : sp} {c : Nat} {o : Int32} (h : KI S c) : KI (sp_reader S o).2 (c + 1) := by
  unfold sp_reader
  split
  · exact h.mono
  · rename_i o' ho
    split
    · exact h.mono
    · rename_i hs
      split
      · exact h.mono
      · rename_i h4
        have hs0 : S.2 1 o' 0 = 0 := Classical.byContradiction hs
        have ho' := (ix_some ho).1
        obtain ⟨r1, r2⟩ := h.1.2.2.2.2.2.2.2.2.2.2
        have n3 : (sN (sN (sN S 7 (S.1 3 0 0) 0 o') 8 (S.1 3 0 0) 0 0) 3 0 0 (S.1 3 0 0 + 1)).1 3 0 0 = S.1 3 0 0 + 1 := by simp [sN_1]
        refine KI.mono (h.same (fun a b d q => ?_) (fun a b d _ _ => rfl) (fun b d _ => rfl) (fun b => rfl) (fun b => rfl) h.1.1.1.2.1 (fun b => Or.inl rfl) ⟨by rw [n3]; omega, fun r hr => ?_⟩)
        · rw [sN_1, if_neg (by omega), sN_1, if_neg (by omega), sN_1, if_neg (by omega)]
        · rw [n3] at hr
          by_cases hr2 : r = S.1 3 0 0
          · subst hr2
            have e7 : (sN (sN (sN S 7 (S.1 3 0 0) 0 o') 8 (S.1 3 0 0) 0 0) 3 0 0 (S.1 3 0 0 + 1)).1 7 (S.1 3 0 0) 0 = o' := by simp [sN_1]
            have e8 : (sN (sN (sN S 7 (S.1 3 0 0) 0 o') 8 (S.1 3 0 0) 0 0) 3 0 0 (S.1 3 0 0 + 1)).1 8 (S.1 3 0 0) 0 = 0 := by simp [sN_1]
            rw [e7, e8]
            exact ⟨ho', hs0, Nat.zero_le _⟩
          · have e7 : (sN (sN (sN S 7 (S.1 3 0 0) 0 o') 8 (S.1 3 0 0) 0 0) 3 0 0 (S.1 3 0 0 + 1)).1 7 r 0 = S.1 7 r 0 := by simp [sN_1, hr2]
            have e8 : (sN (sN (sN S 7 (S.1 3 0 0) 0 o') 8 (S.1 3 0 0) 0 0) 3 0 0 (S.1 3 0 0 + 1)).1 8 r 0 = S.1 8 r 0 := by simp [sN_1, hr2]
            rw [e7, e8]
            exact r2 r (by omega)
theorem q_more_le (S : sp) (r n : Nat) : q_more S r n ≤ S.1 6 (S.1 7 r 0) 0 - S.1 8 r 0 ∧ q_more S r n ≤ n := by
  unfold q_more
  split <;> omega
theorem KI.read {S : sp} {c : Nat} {r n : Int32} (h : KI S c) : KI (sp_read S r n).2 (c + 1) := by
  unfold sp_read
  split
  · exact h.mono
  · rename_i r' hr
    split
    · exact h.mono
    · have hr' := (ix_some hr).1
      obtain ⟨r1, r2⟩ := h.1.2.2.2.2.2.2.2.2.2.2
      have hm := (q_more_le S r' n.toNatClampNeg).1
      obtain ⟨T, hT⟩ : ∃ T, T = sN S 8 r' 0 (S.1 8 r' 0 + q_more S r' n.toNatClampNeg) := ⟨_, rfl⟩
      show KI (sN S 8 r' 0 (S.1 8 r' 0 + q_more S r' n.toNatClampNeg)) (c + 1)
      have e3 : T.1 3 0 0 = S.1 3 0 0 := by rw [hT]; simp [sN_1]
      have e7 : ∀ r, T.1 7 r 0 = S.1 7 r 0 := fun r => by rw [hT]; simp [sN_1]
      have e8 : T.1 8 r' 0 = S.1 8 r' 0 + q_more S r' n.toNatClampNeg := by rw [hT]; simp [sN_1]
      have e8n : ∀ r, r ≠ r' → T.1 8 r 0 = S.1 8 r 0 := fun r hr => by rw [hT]; simp [sN_1, hr]
      have hN : ∀ a b d, a = 0 ∨ a = 1 ∨ a = 2 ∨ a = 4 ∨ a = 5 ∨ a = 6 ∨ a = 9 ∨ a = 10 ∨ a = 11 ∨ a = 14 ∨ a = 15 → T.1 a b d = S.1 a b d := fun a b d q => by rw [hT, sN_1, if_neg (by omega)]
      have hV : T.2 = S.2 := by rw [hT]; rfl
      rw [← hT]
      clear hT
      refine KI.mono (h.same hN (fun a b d _ _ => by rw [hV]) (fun b d _ => by rw [hV]) (fun b => by rw [hV]) (fun b => by rw [hV]) ?_ (fun b => Or.inl (by rw [hV])) ⟨by rw [e3]; exact r1, fun q hq => ?_⟩)
      · have := h.1.1.1.2.1
        unfold sp_LP at this ⊢
        rw [hV]; exact this
      · rw [e3] at hq
        obtain ⟨x1, x2, x3⟩ := r2 q hq
        rw [e7]
        refine ⟨x1, x2, ?_⟩
        by_cases hqr : q = r'
        · subst hqr
          rw [e8]
          omega
        · rw [e8n q hqr]; exact x3
theorem KI.show {S : sp} {c : Nat} (h : KI S c) : KI (sp_show S).2 (c + 1) := by
  unfold sp_show
  split
  · exact h.mono
  · exact h.shown.mono
theorem KI.write {S : sp} {c : Nat} {o k v : Int32} (h : KI S c) : KI (sp_write S o k v).2 (c + 1) := by
  unfold sp_write
  split
  · exact h.mono
  · rename_i o' ho
    split
    · exact h.mono
    · rename_i hk
      split
      · exact h.mono
      · split
        · exact h.mono
        · split
          · exact h.mono
          · rename_i h20
            obtain ⟨ho', -⟩ := ix_some ho
            obtain ⟨⟨a1, a2, a3, ⟨md, a4, a4'⟩, a5, a6, a7, a8, a9, a10, a11⟩, hkl⟩ := h
            have h3 := a1.1.2.2.1
            obtain ⟨T, hT⟩ : ∃ T, T = sN (sV (sV S 2 o' (S.1 4 o' 0) k) 3 o' (S.1 4 o' 0) v) 4 o' 0 (S.1 4 o' 0 + 1) := ⟨_, rfl⟩
            show KI (sN (sV (sV S 2 o' (S.1 4 o' 0) k) 3 o' (S.1 4 o' 0) v) 4 o' 0 (S.1 4 o' 0 + 1)) (c + 1)
            have hN : ∀ a b d, ¬ (a = 4 ∧ b = o' ∧ d = 0) → T.1 a b d = S.1 a b d := fun a b d q => by rw [hT, sN_1, if_neg q]; rfl
            have e4 : T.1 4 o' 0 = S.1 4 o' 0 + 1 := by rw [hT]; simp [sN_1]
            have hV : ∀ a b d, a ≠ 2 → a ≠ 3 → T.2 a b d = S.2 a b d := fun a b d h2 h3 => by rw [hT]; simp [sN_2, sV_2, h2, h3]
            have e2 : T.2 2 o' (S.1 4 o' 0) = k := by rw [hT]; simp [sN_2, sV_2]
            have e2n : ∀ b j, ¬ (b = o' ∧ j = S.1 4 o' 0) → T.2 2 b j = S.2 2 b j := fun b j q => by rw [hT]; simp [sN_2, sV_2, q]
            rw [← hT]
            clear hT
            have hPD : PD T = PD S := PD_same (hN 1 0 0 (by omega)) (fun o => hN 5 o 0 (by omega)) (fun o p => hN 11 o p (by omega))
            have hlp : sp_LP T := by
              have := a1.1.2.1
              unfold sp_LP at this ⊢
              rw [hV 0 3 0 (by decide) (by decide)]
              exact this
            refine ⟨⟨a1.same (fun a b d q => hN a b d (by omega)) (fun a b d q => hV a b d (by omega) (by omega)) (hV 0 0 0 (by decide) (by decide)) (hV 0 1 0 (by decide) (by decide)) (fun b => hV 1 b 0 (by decide) (by decide)) hlp (fun b hb => by rw [hV 1 b 2 (by decide) (by decide)]; exact a1.1.2.2.2.2.2.2.1 b hb), ?_, by rw [hN 2 0 0 (by omega)]; omega, ⟨md, by omega, by rw [hV 0 5 0 (by decide) (by decide)]; exact a4'⟩, fun b => ?_, fun b j hb hj => ?_, fun b hb => ?_, fun i hi => ?_, by rw [hV 0 2 0 (by decide) (by decide)]; exact a9, fun b hb => ?_, by rw [hN 3 0 0 (by omega)]; exact a11.1, fun r hr => ?_⟩, fun hd b p hp h1 => ?_⟩
            · unfold PH at a2 ⊢
              rw [hPD]
              rcases (show o' = 0 ∨ o' = 1 ∨ o' = 2 by omega) with rfl | rfl | rfl
              · rw [e4, hN 4 1 0 (by omega), hN 4 2 0 (by omega)]; omega
              · rw [e4, hN 4 0 0 (by omega), hN 4 2 0 (by omega)]; omega
              · rw [e4, hN 4 0 0 (by omega), hN 4 1 0 (by omega)]; omega
            · by_cases hb : b = o'
              · subst hb
                rw [e4]
                have := a5 b
                omega
              · rw [hN 4 b 0 (by omega)]; exact a5 b
            · by_cases hbj : b = o' ∧ j = S.1 4 o' 0
              · obtain ⟨rfl, rfl⟩ := hbj
                rw [e2]
                refine ⟨Int32.not_lt.mp (fun q => hk (Or.inl q)), ?_⟩
                have : ¬ 9 < k := fun q => hk (Or.inr q)
                rw [i_lt] at this ⊢
                have z9 : (9 : Int32).toInt = 9 := rfl
                have z10 : (10 : Int32).toInt = 10 := rfl
                omega
              · rw [e2n b j hbj]
                refine a6 b j hb ?_
                by_cases hbo : b = o'
                · subst hbo
                  rw [e4] at hj
                  omega
                · rw [hN 4 b 0 (by omega)] at hj; exact hj
            · rw [hN 0 0 0 (by omega)] at hb
              obtain ⟨z1, z2, z3, z4⟩ := a7 b hb
              refine ⟨by rw [hN 4 b 0 (by omega)]; exact z1, by rw [hV 1 b 1 (by decide) (by decide)]; exact z2, by rw [hV 1 b 2 (by decide) (by decide)]; exact z3, fun y hy => ?_⟩
              rw [hV 10 b y (by decide) (by decide), hV 11 b y (by decide) (by decide), hV 12 b y (by decide) (by decide)]
              exact z4 y hy
            · rw [hN 2 0 0 (by omega)] at hi ⊢
              rw [hV 5 i 0 (by decide) (by decide), hV 5 (i + 1) 0 (by decide) (by decide)]
              exact a8 i hi
            · rw [hN 0 0 0 (by omega)] at hb
              rw [hV 1 b 0 (by decide) (by decide), hV 1 b 2 (by decide) (by decide)]
              exact a10 b hb
            · rw [hN 3 0 0 (by omega)] at hr
              rw [hN 7 r 0 (by omega), hN 8 r 0 (by omega), hN 0 0 0 (by omega), hV 1 _ 0 (by decide) (by decide), hN 6 _ 0 (by omega)]
              exact a11.2 r hr
            · rw [hV 0 2 0 (by decide) (by decide)] at hd
              rw [hN 5 b 0 (by omega)] at hp
              rw [hN 11 b p (by omega)] at h1
              rw [hV 13 b p (by decide) (by decide), hV 0 0 0 (by decide) (by decide), hN 2 0 0 (by omega)]
              rcases hkl hd b p hp h1 with e | ⟨i, i1, i2⟩
              · exact Or.inl e
              · exact Or.inr ⟨i, i1, by rw [hV 5 i 0 (by decide) (by decide)]; exact i2⟩
