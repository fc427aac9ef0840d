/-! The class: barriers, and who may make one. -/
section CBs
variable {P : Nat × Nat} {fx : Nat → Prop} {mem : Nat → am_C} {K : Nat × Nat} {ad : Nat → Nat → Nat → Nat} {h : am_H} {S : sp}
theorem c_isKey (P : Nat × Nat) (h : am_H) (k : Int32) : am_E P 55 0 [some (.int k)] [] h = some (some (.int (if k < 0 ∨ 10 ≤ k then 0 else 1)), h) := by
  simp only [r55]
  by_cases h1 : k < 0
  · simp [h1]
  · by_cases h2 : 10 ≤ k
    · simp [h1, h2]
    · simp [h1, h2]
theorem c_isMark (P : Nat × Nat) (h : am_H) (m : Int32) : am_E P 56 0 [some (.int m)] [] h = some (some (.int (if m < 0 ∨ 1000000 < m then 0 else 1)), h) := by
  simp only [r56]
  by_cases h1 : m < 0
  · simp [h1]
  · by_cases h2 : 1000000 < m
    · simp [h1, h2]
    · simp [h1, h2]
theorem c_great (hv : CW P fx mem K ad h S) (hb : S.1 2 0 0 ≤ 200) : am_E P 3 0 [some (.ref (ad 7 0 0))] [] h = some (some (.int (if 0 < S.1 2 0 0 then S.2 5 (S.1 2 0 0 - 1) 0 else -6)), h) := by
  obtain ⟨f, b1, b2⟩ := hv.bm
  cases hn : S.1 2 0 0 with
  | zero =>
    have hba := hv.ba
    rw [hn] at hba
    have c1 : nI 0 ≤ 0 := by decide
    simp only [r3, o3 hba, Option.bind_some, if_pos c1]
    simp
  | succ k =>
    have hba := hv.ba
    rw [hn] at hba
    have c1 : ¬ nI (k + 1) ≤ 0 := nI_nle (by omega) (by omega)
    simp only [r3, o3 hba, Option.bind_some, if_neg c1, nI_pred, iald_I b1 (show k < 200 by omega) (by decide), b2 k (by omega)]
    simp
/-- greatestMark -/
theorem c_gr (hv : CW P fx mem K ad h S) (hb : S.1 2 0 0 ≤ 200) (hm : -6 ≤ S.2 0 0 0) : am_E P 57 0 [some (.ref (ad 0 0 0))] [] h = some (some (.int (sp_gr S)), h) := by
  have e : (if (if 0 < S.1 2 0 0 then S.2 5 (S.1 2 0 0 - 1) 0 else -6) < S.2 0 0 0 then S.2 0 0 0 else (if 0 < S.1 2 0 0 then S.2 5 (S.1 2 0 0 - 1) 0 else -6)) = sp_gr S := by
    unfold sp_gr
    by_cases h0 : 0 < S.1 2 0 0
    · simp only [if_pos h0]
    · simp only [if_neg h0]
      split
      · rfl
      · rename_i hh
        exact Int32.le_antisymm hm (Int32.not_lt.mp hh)
  simp only [r57, o9 hv.x, Option.bind_some, o3 hv.ba, if_true, c_great hv hb, Option.toList, List.nil_append, List.cons_append, c_max, e]
/-- partsAfterBarrier -/
theorem c_pts (hv : CW P fx mem K ad h S) (h3 : S.1 0 0 0 ≤ 3) (h4 : ∀ o, S.1 4 o 0 ≤ 20) : am_E P 62 0 [some (.ref (ad 0 0 0)), none, none, none] [] h = some (some (.int (nI (sp_pts S (S.1 0 0 0)))), h) := by
  have loop : ∀ k i, i + k = S.1 0 0 0 → ∀ l, am_E P 62 4 [some (.ref (ad 0 0 0)), some (.int (nI (sp_pts S i))), some (.int (nI i)), l] [] h = some (some (.int (nI (sp_pts S (S.1 0 0 0)))), h) := by
    intro k
    induction k with
    | zero =>
      intro i hi l
      have c1 : nI (S.1 0 0 0) ≤ nI i := nI_le (by omega) (by omega)
      rw [hd62_4]
      simp only [r62, o9 hv.x, Option.bind_some, hv.szO, if_true, Option.toList, List.nil_append, List.cons_append, if_pos c1]
      rw [show i = S.1 0 0 0 by omega]
    | succ k ih =>
      intro i hi l
      have hi0 : i < S.1 0 0 0 := by omega
      have c1 : ¬ nI (S.1 0 0 0) ≤ nI i := nI_ge hi0 (by omega)
      have := ih (i + 1) (by omega) (some (.ref (ad 9 i 0)))
      have e : sp_pts S (i + 1) = sp_pts S i + (S.1 5 i 0 + (if 0 < S.1 4 i 0 then 1 else 0)) := rfl
      rw [hd62_4]
      simp only [r62, o9 hv.x, Option.bind_some, hv.szO, if_true, Option.toList, List.nil_append, List.cons_append, if_neg c1, hv.getO hi0 h3, o10 (hv.ou hi0), hv.szP hi0]
      by_cases h0 : 0 < S.1 4 i 0
      · have c2 : ¬ nI (S.1 4 i 0) ≤ 0 := nI_nle h0 (by have := h4 i; omega)
        rw [if_pos h0] at e
        have e' : nI (sp_pts S i) + nI (S.1 5 i 0 + 1) = nI (sp_pts S (i + 1)) := by rw [e, nI_add]
        simp only [if_neg c2, r62, nI_1, e']
        exact this
      · have z : S.1 4 i 0 = 0 := by omega
        rw [if_neg h0] at e
        have c2 : nI (S.1 4 i 0) ≤ 0 := by rw [z]; decide
        have e' : nI (sp_pts S i) + (nI (S.1 5 i 0) + 0) = nI (sp_pts S (i + 1)) := by rw [e, Int32.add_zero, nI_add, Nat.add_zero]
        simp only [if_pos c2, r62, e', nI_1]
        exact this
  simp only [r62]
  exact loop (S.1 0 0 0) 0 (by omega) none
/-- refusalOfBarrier -/
theorem c_bars (hv : CW P fx mem K ad h S) {c : Nat} (hk : KI S c) (hc : c < 100) (m : Int32) : am_E P 61 0 [some (.ref (ad 0 0 0)), some (.int m)] [] h = some (some (.int (sp_bars S m)), h) := by
  have h3 : S.1 0 0 0 ≤ 3 := hk.1.1.1.2.2.1
  have hmk : -6 ≤ S.2 0 0 0 := hk.1.1.1.2.2.2.2.2.2.2.1
  obtain ⟨a1, a2, a3, ⟨md, a4, a5⟩, a6, a7⟩ := hk.1
  have hg := c_gr hv (by omega) hmk
  have h5 : ∀ o, o < 3 → S.1 5 o 0 < 1000 := hk.1.1.1.1.2.2.1
  have hsm : ∀ o, o ≤ 3 → sp_pts S o ≤ 1001 * o := by
    intro o
    induction o with
    | zero => intro _; simp [sp_pts]
    | succ o ih =>
      intro ho
      have := ih (by omega)
      have := h5 o (by omega)
      unfold sp_pts
      split <;> omega
  have hpl := hsm _ h3
  have hcm : am_cls h (ad 0 0 0) = some 8 := cl_of hv.x
  have b1 : ¬ (1 : Int32) = 0 := by decide
  unfold sp_bars
  by_cases c1 : m < 0 ∨ 1000000 < m
  · rw [if_pos (by rcases c1 with c | c; exact Or.inl c; exact Or.inr (Or.inl c))]
    simp only [r61, c_isMark, Option.bind_some, Option.toList, List.nil_append, List.cons_append, if_pos c1, if_true]
  · by_cases c2 : m ≤ sp_gr S
    · have c3 : sp_gr S ≠ -6 := by
        intro e
        rw [e] at c2
        refine c1 (Or.inl ?_)
        rw [i_lt]
        rw [i_le] at c2
        have z0 : (0 : Int32).toInt = 0 := rfl
        have z6 : (-6 : Int32).toInt = -6 := rfl
        omega
      rw [if_pos (Or.inr (Or.inr ⟨c3, c2⟩))]
      have c2' : ¬ sp_gr S < m := Int32.not_lt.mpr c2
      simp only [r61, c_isMark, Option.bind_some, Option.toList, List.nil_append, List.cons_append, if_neg c1, if_neg b1, hcm, if_true, hg, if_neg c2']
    · rw [if_neg (by rintro (c | c | c); exact c1 (Or.inl c); exact c1 (Or.inr c); exact c2 c.2)]
      have c2' : sp_gr S < m := Int32.not_le.mp c2
      by_cases c4 : S.2 0 2 0 = 0
      · rw [if_neg (not_not_intro c4)]
        by_cases c5 : S.2 0 1 0 = 0
        · rw [if_neg (not_not_intro c5)]
          have c6 : ¬ (200 : Int32) ≤ S.2 0 5 0 := by rw [a5]; exact nI_ge (b := 200) (by omega) (by decide)
          have c6' : ¬ S.2 0 5 0 = 200 := by
            rw [a5]
            intro e
            rw [a5, e] at c6
            exact c6 (Int32.le_refl _)
          have hp := c_pts hv h3 a6
          by_cases c7 : 100 < sp_pts S (S.1 0 0 0)
          · rw [if_pos (Or.inr c7)]
            have c7' : ¬ nI (sp_pts S (S.1 0 0 0)) ≤ 100 := nI_ge (a := 100) c7 (by omega)
            simp only [r61, c_isMark, Option.bind_some, Option.toList, List.nil_append, List.cons_append, if_neg c1, if_neg b1, hcm, if_true, hg, if_pos c2', o9 hv.x, if_pos c4, if_pos c5, o3 hv.ba, if_neg c6, hp, if_neg c7']
          · rw [if_neg (by rintro (c | c); exact c6' c; exact c7 c)]
            have c7' : nI (sp_pts S (S.1 0 0 0)) ≤ 100 := nI_le (b := 100) (by omega) (by decide)
            simp only [r61, c_isMark, Option.bind_some, Option.toList, List.nil_append, List.cons_append, if_neg c1, if_neg b1, hcm, if_true, hg, if_pos c2', o9 hv.x, if_pos c4, if_pos c5, o3 hv.ba, if_neg c6, hp, if_pos c7']
        · rw [if_pos c5]
          simp only [r61, c_isMark, Option.bind_some, Option.toList, List.nil_append, List.cons_append, if_neg c1, if_neg b1, hcm, if_true, hg, if_pos c2', o9 hv.x, if_pos c4, if_neg c5]
      · rw [if_pos c4]
        simp only [r61, c_isMark, Option.bind_some, Option.toList, List.nil_append, List.cons_append, if_neg c1, if_neg b1, hcm, if_true, hg, if_pos c2', o9 hv.x, if_neg c4]
theorem SO.n2 {v : Nat} (hv : v ≤ S.1 2 0 0) : SO P ad ad S (sN S 2 0 0 v) (fun k i j => k = 7 ∧ i = 0 ∧ j = 0) := by
  intro k i j hl hN
  rcases k23 hl with rfl | rfl | rfl | rfl | rfl | rfl | rfl | rfl | rfl | rfl | rfl | rfl | rfl | rfl | rfl | rfl | rfl | rfl | rfl | rfl | rfl | rfl | rfl
  all_goals first
    | exact ⟨hl, rfl, fun c hc => hc⟩
    | exact ⟨hl, rfl, fun c hc => by refine ok22 ?_ ?_ ?_ ?_ hc <;> (intros; rfl)⟩
    | exact absurd ⟨rfl, hl.1, hl.2⟩ hN
    | skip
  refine ⟨hl, rfl, fun c hc => ?_⟩
  obtain ⟨f, b1, b2⟩ := hc
  exact ⟨f, b1, fun i hi => b2 i (Nat.lt_of_lt_of_le hi hv)⟩
/-- dropFrom -/
theorem c_drop (m : Int32) : ∀ (c : Nat) (S : sp) (h : am_H), CW P fx mem K ad h S → S.1 2 0 0 = c → c ≤ 200 → ∃ h', am_E P 4 0 [some (.ref (ad 7 0 0)), some (.int m)] [] h = some (none, h') ∧ CW P fx mem K ad h' (sp_drop m c S) := by
  intro c
  induction c with
  | zero =>
    intro S h hv hn _
    have hba := hv.ba
    rw [hn] at hba
    have c1 : nI 0 ≤ 0 := by decide
    refine ⟨h, ?_, hv⟩
    conv => lhs; rw [hd4_0]
    simp only [r4, o3 hba, Option.bind_some, if_pos c1]
  | succ k ih =>
    intro S h hv hn hc
    have hba := hv.ba
    rw [hn] at hba
    obtain ⟨f, b1, b2⟩ := hv.bm
    have c1 : ¬ nI (k + 1) ≤ 0 := nI_nle (by omega) (by omega)
    unfold sp_drop
    by_cases hm : m ≤ S.2 5 k 0
    · rw [if_pos hm]
      have v1 := hv.put 7 0 0 (fun _ => rfl) ⟨rfl, rfl⟩ (S' := sN S 2 0 0 k) (fun _ => SO.n2 (by omega)) (c := ac_O 1 [.ref (ad 8 0 0), .int (nI k), .int (S.2 0 5 0)]) (fun _ => rfl) rfl rfl
      obtain ⟨h', e1, e2⟩ := ih (sN S 2 0 0 k) _ v1 rfl (by omega)
      refine ⟨h', ?_, e2⟩
      have c2 : ¬ S.2 5 k 0 < m := Int32.not_lt.mpr hm
      conv => lhs; rw [hd4_0]
      simp only [r4, o3 hba, Option.bind_some, if_neg c1, nI_pred, iald_I b1 (show k < 200 by omega) (by decide), b2 k (by omega), if_neg c2]
      exact e1
    · rw [if_neg hm]
      refine ⟨h, ?_, hv⟩
      have c2 : S.2 5 k 0 < m := Int32.not_le.mp hm
      conv => lhs; rw [hd4_0]
      simp only [r4, o3 hba, Option.bind_some, if_neg c1, nI_pred, iald_I b1 (show k < 200 by omega) (by decide), b2 k (by omega), if_pos c2]
/-- a barrier is there -/
theorem c_badd (hv : CW P fx mem K ad h S) (hb : S.1 2 0 0 < 200) (m : Int32) : ∃ h', am_E P 1 0 [some (.ref (ad 7 0 0)), some (.int m)] [] h = some (none, h') ∧ CW P fx mem K ad h' (sN (sV S 5 (S.1 2 0 0) 0 m) 2 0 0 (S.1 2 0 0 + 1)) := by
  obtain ⟨f, b1, b2⟩ := hv.bm
  have n78 : ad 8 0 0 ≠ ad 7 0 0 := hv.ne (k := 8) (k' := 7) ⟨rfl, rfl⟩ ⟨rfl, rfl⟩ (fun _ => rfl) (fun _ => rfl) (by decide)
  have b1' : (ah_put h (ad 7 0 0) (ac_O 1 [.ref (ad 8 0 0), .int (nI (S.1 2 0 0 + 1)), .int (S.2 0 5 0)])).2.2 (ad 8 0 0) = ac_I 200 f := by rw [ah_ne n78]; exact b1
  refine ⟨ah_put (ah_put h (ad 7 0 0) (ac_O 1 [.ref (ad 8 0 0), .int (nI (S.1 2 0 0 + 1)), .int (S.2 0 5 0)])) (ad 8 0 0) (ac_I 200 (upd f (S.1 2 0 0) m)), ?_, ?_⟩
  · have c1 : ¬ nI 200 ≤ nI (S.1 2 0 0) := nI_ge hb (by decide)
    simp only [r1, o3 hv.ba, Option.bind_some, alen_I b1, if_neg c1, nI_1, iast_I b1' hb (by decide)]
  · refine hv.puts (fun k i j => (k = 7 ∨ k = 8) ∧ i = 0 ∧ j = 0) (fun ad => ?_) (fun k i j hN ae => ?_) (fun k i j hN hl => ?_) rfl rfl (fun a ha => ?_) (fun k i j hN hl ae => ?_) rfl rfl
    · intro k i j hl hN
      rcases k23 hl with rfl | rfl | rfl | rfl | rfl | rfl | rfl | rfl | rfl | rfl | rfl | rfl | rfl | rfl | rfl | rfl | rfl | rfl | rfl | rfl | rfl | rfl | rfl
      all_goals first
        | exact ⟨hl, rfl, fun c hc => hc⟩
        | exact ⟨hl, rfl, fun c hc => by refine ok22 ?_ ?_ ?_ ?_ hc <;> (intros; rfl)⟩
        | exact absurd ⟨by decide, hl.1, hl.2⟩ hN
    · rcases hN with ⟨rfl | rfl, -, -⟩ <;> rfl
    · rcases hN with ⟨rfl | rfl, rfl, rfl⟩ <;> exact ⟨rfl, rfl⟩
    · rw [ah_ne (ha 8 0 0 ⟨by decide, rfl, rfl⟩ ⟨rfl, rfl⟩), ah_ne (ha 7 0 0 ⟨by decide, rfl, rfl⟩ ⟨rfl, rfl⟩)]
    · rcases hN with ⟨rfl | rfl, rfl, rfl⟩
      · rw [ah_ne (Ne.symm n78), ah_same]
        rfl
      · rw [ah_same]
        refine ⟨_, rfl, fun i hi => ?_⟩
        have hi' : i < S.1 2 0 0 + 1 := hi
        rw [sN_2, sV_2]
        simp only [upd, true_and, and_true]
        split
        · rfl
        · exact b2 i (by omega)
theorem c_bhas (hv : CW P fx mem K ad h S) (hb : S.1 2 0 0 ≤ 200) (m : Int32) : am_E P 2 0 [some (.ref (ad 7 0 0)), some (.int m), none] [] h = some (some (.int (if q_bh S m (S.1 2 0 0) = true then 1 else 0)), h) := by
  obtain ⟨f, b1, b2⟩ := hv.bm
  have loop : ∀ c, c ≤ S.1 2 0 0 → am_E P 2 7 [some (.ref (ad 7 0 0)), some (.int m), some (.int (nI c - 1))] [] h = some (some (.int (if q_bh S m c = true then 1 else 0)), h) := by
    intro c
    induction c with
    | zero =>
      intro _
      have c1 : nI 0 - 1 < 0 := by decide
      rw [hd2_7]
      simp only [r2, if_pos c1, true_or, if_true]
      rfl
    | succ c ih =>
      intro hc
      have c1 : ¬ nI c < 0 := nI_pos (by omega)
      have := ih (by omega)
      have em : nI c + (-1) = nI c - 1 := (Int32.sub_eq_add_neg _ _).symm
      unfold q_bh
      rw [nI_pred, hd2_7]
      simp only [r2, if_neg c1, o3 hv.ba, Option.bind_some, iald_I b1 (show c < 200 by omega) (by decide), b2 c (by omega)]
      by_cases hq : S.2 5 c 0 = m
      · simp [hq]
      · simp only [if_neg hq, em]
        rw [this]
        simp [hq]
  simp only [r2, o3 hv.ba, Option.bind_some]
  exact loop _ (Nat.le_refl _)
theorem ix_no {o : Int32} {n : Nat} (hn : n < 2 ^ 31) (h : am_ix o n = none) : o < 0 ∨ (¬ o < 0 ∧ ¬ o < nI n) := by
  have := ix_none h
  by_cases h0 : o < 0
  · exact Or.inl h0
  · refine Or.inr ⟨h0, fun e => this ?_⟩
    rw [i_lt, nI_toInt hn] at e
    rw [i_lt] at h0
    have z0 : (0 : Int32).toInt = 0 := rfl
    omega
/-- outputAt -/
theorem c_outAt (hv : CW P fx mem K ad h S) (h3 : S.1 0 0 0 ≤ 3) (o : Int32) : am_E P 53 0 [some (.ref (ad 0 0 0)), some (.int o)] [] h = some (some (match am_ix o (S.1 0 0 0) with | none => .null | some o' => .ref (ad 9 o' 0)), h) := by
  cases hx : am_ix o (S.1 0 0 0) with
  | none =>
    rcases ix_no (by omega) hx with h0 | ⟨h0, h1⟩
    · simp only [r53, if_pos h0]
    · simp only [r53, if_neg h0, o9 hv.x, Option.bind_some, hv.szO, if_true, Option.toList, List.nil_append, List.cons_append, if_neg h1]
  | some o' =>
    obtain ⟨ho, e⟩ := ix_some hx
    have e := e (by omega)
    subst e
    have h0 : ¬ nI o' < 0 := nI_pos (by omega)
    have h1 : nI o' < nI (S.1 0 0 0) := nI_lt ho (by omega)
    simp only [r53, if_neg h0, o9 hv.x, Option.bind_some, hv.szO, if_true, Option.toList, List.nil_append, List.cons_append, if_pos h1, hv.getO ho h3, o10 (hv.ou ho)]
theorem c_rdAt (hv : CW P fx mem K ad h S) (h4 : S.1 3 0 0 ≤ 4) (r : Int32) : am_E P 54 0 [some (.ref (ad 0 0 0)), some (.int r)] [] h = some (some (match am_ix r (S.1 3 0 0) with | none => .null | some r' => .ref (ad 21 r' 0)), h) := by
  cases hx : am_ix r (S.1 3 0 0) with
  | none =>
    rcases ix_no (by omega) hx with h0 | ⟨h0, h1⟩
    · simp only [r54, if_pos h0]
    · simp only [r54, if_neg h0, o9 hv.x, Option.bind_some, hv.szR, if_true, Option.toList, List.nil_append, List.cons_append, if_neg h1]
  | some r' =>
    obtain ⟨hr, e⟩ := ix_some hx
    have e := e (by omega)
    subst e
    have h0 : ¬ nI r' < 0 := nI_pos (by omega)
    have h1 : nI r' < nI (S.1 3 0 0) := nI_lt hr (by omega)
    simp only [r54, if_neg h0, o9 hv.x, Option.bind_some, hv.szR, if_true, Option.toList, List.nil_append, List.cons_append, if_pos h1, hv.getR hr, o3 (hv.rd hr)]
theorem c_ptAt (hv : CW P fx mem K ad h S) {o : Nat} (ho : o < S.1 0 0 0) (h5 : S.1 5 o 0 < 2 ^ 31) (p : Int32) : am_E P 12 0 [some (.ref (ad 9 o 0)), some (.int p)] [] h = some (some (match am_ix p (S.1 5 o 0) with | none => .null | some p' => .ref (ad 20 o p')), h) := by
  cases hx : am_ix p (S.1 5 o 0) with
  | none =>
    rcases ix_no h5 hx with h0 | ⟨h0, h1⟩
    · simp only [r12, if_pos h0]
    · simp only [r12, if_neg h0, o10 (hv.ou ho), Option.bind_some, hv.szP ho, if_true, Option.toList, List.nil_append, List.cons_append, if_neg h1]
  | some p' =>
    obtain ⟨hp, e⟩ := ix_some hx
    have e := e h5
    subst e
    obtain ⟨x, y, hpt⟩ := hv.pt ho hp
    have h0 : ¬ nI p' < 0 := nI_pos (by omega)
    have h1 : nI p' < nI (S.1 5 o 0) := nI_lt hp h5
    simp only [r12, if_neg h0, o10 (hv.ou ho), Option.bind_some, hv.szP ho, if_true, Option.toList, List.nil_append, List.cons_append, if_pos h1, hv.getP ho hp, o7 hpt]
end CBs
