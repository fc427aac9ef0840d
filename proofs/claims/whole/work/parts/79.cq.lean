/-! The class: what is asked. -/
theorem fi_i {c : Prop} [Decidable c] {a b : Int32} {h : am_H} : (if c then (some (some (Value.int a), h) : Option am_R) else some (some (Value.int b), h)) = some (some (Value.int (if c then a else b)), h) := by
  split <;> rfl
theorem fi_l {c : Prop} [Decidable c] {a b : Int64} {h : am_H} : (if c then (some (some (Value.long a), h) : Option am_R) else some (some (Value.long b), h)) = some (some (Value.long (if c then a else b)), h) := by
  split <;> rfl
theorem w_out {w : Int32} {n : Nat} (hn : n < 2 ^ 31) (hw : ∀ k, k < n → w ≠ nI k) : w < 0 ∨ nI n ≤ w := by
  by_cases h0 : w < 0
  · exact Or.inl h0
  · right
    obtain ⟨j, hj, rfl⟩ := nI_of h0
    by_cases hjn : j < n
    · exact absurd rfl (hw j hjn)
    · exact nI_le (by omega) hj
section CQ
variable {P : Nat × Nat} {fx : Nat → Prop} {mem : Nat → am_C} {K : Nat × Nat} {ad : Nat → Nat → Nat → Nat} {h : am_H} {S : sp} {X c : Nat}
theorem c_wait (hv : CW P fx mem K ad h S) {o : Nat} (ho : o < S.1 0 0 0) (hg : S.1 5 o 0 < 1000) (h11 : ∀ p, p < S.1 5 o 0 → S.1 11 o p ≤ 3) : am_E P 13 0 [some (.ref (ad 9 o 0)), none, none] [] h = some (some (.int (nI (pn S o))), h) := by
  have loop : ∀ k p, p + k = S.1 5 o 0 → am_E P 13 4 [some (.ref (ad 9 o 0)), some (.int (nI (sum_ (fun p => if S.1 11 o p = 1 then 1 else 0) p))), some (.int (nI p))] [] h = some (some (.int (nI (pn S o))), h) := by
    intro k
    induction k with
    | zero =>
      intro p hp
      have c1 : nI (S.1 5 o 0) ≤ nI p := nI_le (by omega) (by omega)
      rw [hd13_4]
      simp only [r13, o10 (hv.ou ho), Option.bind_some, hv.szP ho, if_true, Option.toList, List.nil_append, List.cons_append, if_pos c1]
      unfold pn
      rw [show p = S.1 5 o 0 by omega]
    | succ k ih =>
      intro p hp
      have hpl : p < S.1 5 o 0 := by omega
      have c1 : ¬ nI (S.1 5 o 0) ≤ nI p := nI_ge hpl (by omega)
      obtain ⟨x, y, hpt⟩ := hv.pt ho hpl
      have i1 := ih (p + 1) (by omega)
      have em : nI (S.1 11 o p) = 1 ↔ S.1 11 o p = 1 := nI_eq (a := S.1 11 o p) (b := 1) (by have := h11 p hpl; omega) (by decide)
      rw [sum_S] at i1
      refine Eq.trans ?_ i1
      conv => lhs; rw [hd13_4]
      by_cases h1 : S.1 11 o p = 1
      · have c2 : nI (S.1 11 o p) = 1 := em.mpr h1
        simp only [r13, o10 (hv.ou ho), Option.bind_some, hv.szP ho, if_true, Option.toList, List.nil_append, List.cons_append, if_neg c1, hv.getP ho hpl, o7 hpt, if_pos c2, nI_1, if_pos h1]
      · have c2 : ¬ nI (S.1 11 o p) = 1 := fun e => h1 (em.mp e)
        simp only [r13, o10 (hv.ou ho), Option.bind_some, hv.szP ho, if_true, Option.toList, List.nil_append, List.cons_append, if_neg c1, hv.getP ho hpl, o7 hpt, if_neg c2, nI_1, if_neg h1, Nat.add_zero]
  simp only [r13]
  exact loop (S.1 5 o 0) 0 (Nat.zero_add _)
theorem cc_about (hz : CZ P fx mem K X h S) (hk : KI S c) (o w : Int32) : am_E P 43 0 [some (.ref X), some (.int o), some (.int w), none] [] h = some (some (.int (sp_about S o w)), h) := by
  obtain ⟨ad, rfl, hv⟩ := hz
  have ha := c_outAt hv hk.1.1.1.2.2.1 o
  unfold sp_about
  cases hx : am_ix o (S.1 0 0 0) with
  | none =>
    rw [hx] at ha
    simp only [r43, cl_of hv.x, if_true, ha, Option.bind_some, Option.toList, List.nil_append, List.cons_append]
  | some o' =>
    rw [hx] at ha
    have ho := (ix_some hx).1
    have h3 : S.1 0 0 0 ≤ 3 := hk.1.1.1.2.2.1
    simp only at ha ⊢
    have cw := c_wait hv ho (hk.1.1.1.1.2.2.1 o' (by omega)) (fun p hp => (hk.1.1.1.1.1 o' p (by omega) hp).2.1)
    simp only [r43, cl_of hv.x, if_true, ha, Option.bind_some, Option.toList, List.nil_append, List.cons_append, o10 (hv.ou ho), hv.szP ho, hv.cntL ho, o4 (hv.tb ho), cw, fi_i]
theorem cc_part (hz : CZ P fx mem K X h S) (hk : KI S c) (o p w : Int32) : am_E P 44 0 [some (.ref X), some (.int o), some (.int p), some (.int w), none, none] [] h = some (some (.int (sp_part S o p w)), h) := by
  obtain ⟨ad, rfl, hv⟩ := hz
  have ha := c_outAt hv hk.1.1.1.2.2.1 o
  have h3 : S.1 0 0 0 ≤ 3 := hk.1.1.1.2.2.1
  unfold sp_part
  cases hx : am_ix o (S.1 0 0 0) with
  | none =>
    rw [hx] at ha
    simp only [r44, cl_of hv.x, if_true, ha, Option.bind_some, Option.toList, List.nil_append, List.cons_append]
  | some o' =>
    rw [hx] at ha
    have ho := (ix_some hx).1
    simp only at ha ⊢
    have hg := hk.1.1.1.1.2.2.1 o' (by omega)
    have hb := c_ptAt hv ho (by omega) p
    cases hy : am_ix p (S.1 5 o' 0) with
    | none =>
      rw [hy] at hb
      simp only [r44, cl_of hv.x, if_true, ha, Option.bind_some, Option.toList, List.nil_append, List.cons_append, cl_of (hv.ou ho), hb]
    | some p' =>
      rw [hy] at hb
      have hp := (ix_some hy).1
      obtain ⟨x, y, hpt⟩ := hv.pt ho hp
      simp only at hb ⊢
      simp only [r44, cl_of hv.x, if_true, ha, Option.bind_some, Option.toList, List.nil_append, List.cons_append, cl_of (hv.ou ho), hb, o7 hpt, fi_i]
theorem cc_lineQ (hz : CZ P fx mem K X h S) (hk : KI S c) (o i w : Int32) : am_E P 45 0 [some (.ref X), some (.int o), some (.int i), some (.int w), none] [] h = some (some (.long (sp_lineQ S o i w)), h) := by
  obtain ⟨ad, rfl, hv⟩ := hz
  have ha := c_outAt hv hk.1.1.1.2.2.1 o
  have h3 : S.1 0 0 0 ≤ 3 := hk.1.1.1.2.2.1
  have c01 : ¬ (1 : Int32) = 0 := by decide
  unfold sp_lineQ
  cases hx : am_ix o (S.1 0 0 0) with
  | none =>
    rw [hx] at ha
    simp only [r45, cl_of hv.x, if_true, ha, Option.bind_some, Option.toList, List.nil_append, List.cons_append]
  | some o' =>
    rw [hx] at ha
    have ho := (ix_some hx).1
    simp only at ha ⊢
    have hl := hk.1.1.1.lines o'
    have hnr := hk.1.1.nr
    obtain ⟨e, N, f, hw, hf⟩ := hv.rwL ho (by omega)
    by_cases hs : S.2 1 o' 0 = 0
    · rw [if_pos hs]
      have hh := c_has P hw i w
      cases hy : am_ix i (S.1 6 o' 0) with
      | none =>
        have hn : i < 0 ∨ nI (S.1 6 o' 0) ≤ i ∨ w < 0 ∨ nI 4 ≤ w := by
          rcases ix_no (by omega) hy with e | ⟨_, e⟩
          · exact Or.inl e
          · exact Or.inr (Or.inl (Int32.not_lt.mp e))
        rw [if_pos hn] at hh
        simp only [r45, cl_of hv.x, if_true, ha, Option.bind_some, Option.toList, List.nil_append, List.cons_append, o10 (hv.ou ho), if_pos hs, (hv.cntL ho).2, hh]
      | some i' =>
        obtain ⟨hi, ei⟩ := ix_some hy
        have ei := ei (by omega)
        subst ei
        simp only
        by_cases hw4 : ∀ k, k < 4 → w ≠ nI k
        · have hn : nI i' < 0 ∨ nI (S.1 6 o' 0) ≤ nI i' ∨ w < 0 ∨ nI 4 ≤ w := Or.inr (Or.inr (w_out (by decide) hw4))
          rw [if_pos hn] at hh
          have z0 : ¬ w = 0 := hw4 0 (by decide)
          have z1 : ¬ w = 1 := hw4 1 (by decide)
          have z2 : ¬ w = 2 := hw4 2 (by decide)
          have z3 : ¬ w = 3 := hw4 3 (by decide)
          rw [if_neg z0, if_neg z1, if_neg z2, if_neg z3]
          simp only [r45, cl_of hv.x, if_true, ha, Option.bind_some, Option.toList, List.nil_append, List.cons_append, o10 (hv.ou ho), if_pos hs, (hv.cntL ho).2, hh]
        · have hex : ∃ k, k < 4 ∧ w = nI k := Classical.byContradiction (fun hc => hw4 (fun k hk e => hc ⟨k, hk, e⟩))
          obtain ⟨k, hk4, rfl⟩ := hex
          have hh1 := c_has1 P hw hi hk4
          have hc := c_cell P hw hi hk4
          have fl := hf i' hi
          have run : am_E P 45 0 [some (.ref (ad 0 0 0)), some (.int o), some (.int (nI i')), some (.int (nI k)), none] [] h = some (some (.long (f (i' * 4 + k)).toInt64), h) := by
            simp only [r45, cl_of hv.x, if_true, ha, Option.bind_some, Option.toList, List.nil_append, List.cons_append, o10 (hv.ou ho), if_pos hs, (hv.cntL ho).2, hh1, if_neg c01, hc]
          rw [run]
          have hk' : k = 0 ∨ k = 1 ∨ k = 2 ∨ k = 3 := by omega
          rcases hk' with rfl | rfl | rfl | rfl
          · rw [Nat.add_zero, fl.1, if_pos (show nI 0 = 0 from rfl)]
          · rw [fl.2.1, if_neg (show ¬ nI 1 = 0 by decide), if_pos (show nI 1 = 1 from rfl)]
          · rw [fl.2.2.1, if_neg (show ¬ nI 2 = 0 by decide), if_neg (show ¬ nI 2 = 1 by decide), if_pos (show nI 2 = 2 from rfl)]
          · rw [fl.2.2.2, if_neg (show ¬ nI 3 = 0 by decide), if_neg (show ¬ nI 3 = 1 by decide), if_neg (show ¬ nI 3 = 2 by decide), if_pos (show nI 3 = 3 from rfl)]
    · rw [if_neg hs]
      simp only [r45, cl_of hv.x, if_true, ha, Option.bind_some, Option.toList, List.nil_append, List.cons_append, o10 (hv.ou ho), if_neg hs]
theorem cc_lastQ (hz : CZ P fx mem K X h S) (hk : KI S c) (o k w : Int32) : am_E P 46 0 [some (.ref X), some (.int o), some (.int k), some (.int w), none] [] h = some (some (.long (sp_lastQ S o k w)), h) := by
  obtain ⟨ad, rfl, hv⟩ := hz
  have ha := c_outAt hv hk.1.1.1.2.2.1 o
  have c01 : ¬ (1 : Int32) = 0 := by decide
  unfold sp_lastQ
  cases hx : am_ix o (S.1 0 0 0) with
  | none =>
    rw [hx] at ha
    simp only [r46, cl_of hv.x, if_true, ha, Option.bind_some, Option.toList, List.nil_append, List.cons_append]
  | some o' =>
    rw [hx] at ha
    have ho := (ix_some hx).1
    simp only at ha ⊢
    by_cases hs : S.2 1 o' 0 = 1
    · rw [if_pos hs]
      cases hy : am_ix k 10 with
      | none =>
        have hn : k < 0 ∨ 10 ≤ k := by
          rcases ix_no (by decide) hy with e | ⟨_, e⟩
          · exact Or.inl e
          · exact Or.inr (Int32.not_lt.mp e)
        have hh : am_E P 30 0 [some (.ref (ad 16 o' 0)), some (.int k)] [] h = some (some (.int 0), h) := by
          simp only [r30, c_isKey, if_pos hn, Option.bind_some, Option.toList, List.nil_append, List.cons_append, if_true, true_or]
        simp only [r46, cl_of hv.x, if_true, ha, Option.bind_some, Option.toList, List.nil_append, List.cons_append, o10 (hv.ou ho), if_pos hs, cl_of (hv.tb ho), hh]
      | some k' =>
        obtain ⟨hk', ek⟩ := ix_some hy
        have ek := ek (by decide)
        subst ek
        simp only
        have hh := c_thas hv ho hk'
        by_cases h6 : S.2 10 o' k' = -6
        · rw [if_pos h6] at hh ⊢
          simp only [r46, cl_of hv.x, if_true, ha, Option.bind_some, Option.toList, List.nil_append, List.cons_append, o10 (hv.ou ho), if_pos hs, cl_of (hv.tb ho), hh]
        · rw [if_neg h6] at hh ⊢
          obtain ⟨fp, p1, p2⟩ := hv.tp ho
          obtain ⟨fl, l1, l2⟩ := hv.tl ho
          obtain ⟨fv, v1, v2⟩ := hv.tv ho
          simp only [r46, cl_of hv.x, if_true, ha, Option.bind_some, Option.toList, List.nil_append, List.cons_append, o10 (hv.ou ho), if_pos hs, o4 (hv.tb ho), hh, if_neg c01, iald_I p1 hk' (by decide), iald_I l1 hk' (by decide), iald_I v1 hk' (by decide), p2 k' hk', l2 k' hk', v2 k' hk', fi_l]
    · rw [if_neg hs]
      simp only [r46, cl_of hv.x, if_true, ha, Option.bind_some, Option.toList, List.nil_append, List.cons_append, o10 (hv.ou ho), if_neg hs]
theorem cc_seen (hz : CZ P fx mem K X h S) (hk : KI S c) (r k : Int32) : am_E P 49 0 [some (.ref X), some (.int r), some (.int k), none] [] h = some (some (.int (sp_seen S r k)), h) := by
  obtain ⟨ad, rfl, hv⟩ := hz
  obtain ⟨a1, a2, a3, a4, a5, a6, a7, a8, a9, a10, a11⟩ := hk.1
  have ha := c_rdAt hv a11.1 r
  have c01 : ¬ (1 : Int32) = 0 := by decide
  unfold sp_seen
  cases hx : am_ix r (S.1 3 0 0) with
  | none =>
    rw [hx] at ha
    simp only [r49, cl_of hv.x, if_true, ha, Option.bind_some, Option.toList, List.nil_append, List.cons_append]
  | some r' =>
    rw [hx] at ha
    have hr := (ix_some hx).1
    simp only at ha ⊢
    obtain ⟨b1, f, b2, b3⟩ := hv.rk hr
    by_cases h6 : k = -6
    · rw [if_pos h6]
      simp only [r49, cl_of hv.x, if_true, ha, Option.bind_some, Option.toList, List.nil_append, List.cons_append, if_pos h6, o3 (hv.rd hr)]
    · rw [if_neg h6]
      by_cases hq : k < 0 ∨ 9 < k
      · rw [if_pos hq]
        have hq' : k < 0 ∨ 10 ≤ k := by rw [key_10]; exact hq
        simp only [r49, cl_of hv.x, if_true, ha, Option.bind_some, Option.toList, List.nil_append, List.cons_append, if_neg h6, c_isKey, if_pos hq']
      · rw [if_neg hq]
        have hq' : ¬ (k < 0 ∨ 10 ≤ k) := by rw [key_10]; exact hq
        obtain ⟨k', hk', rfl, -⟩ := key_nat (x := k) ⟨Int32.not_lt.mp (fun e => hq' (Or.inl e)), Int32.not_le.mp (fun e => hq' (Or.inr e))⟩
        simp only [r49, cl_of hv.x, if_true, ha, Option.bind_some, Option.toList, List.nil_append, List.cons_append, if_neg h6, c_isKey, if_neg hq', if_neg c01, o3 (hv.rd hr), iald_I b2 hk' (by decide), b3 k' hk']
theorem cc_recQ (hz : CZ P fx mem K X h S) (hk : KI S c) (i w : Int32) : am_E P 50 0 [some (.ref X), some (.int i), some (.int w)] [] h = some (some (.int (sp_recQ S i w)), h) := by
  obtain ⟨ad, rfl, hv⟩ := hz
  have hnr := hk.1.1.nr
  have c01 : ¬ (1 : Int32) = 0 := by decide
  obtain ⟨e, N, f, hw, hf⟩ := hv.rwD (by omega)
  unfold sp_recQ
  cases hy : am_ix i (S.1 1 0 0) with
  | none =>
    rcases ix_no (by omega) hy with h0 | ⟨h0, h1⟩
    · simp only [r50, if_pos h0]
    · simp only [r50, if_neg h0, o9 hv.x, Option.bind_some, hv.cntD, if_true, Option.toList, List.nil_append, List.cons_append, if_neg h1]
  | some i' =>
    obtain ⟨hi, ei⟩ := ix_some hy
    have ei := ei (by omega)
    subst ei
    simp only
    have h0 : ¬ nI i' < 0 := nI_pos (by omega)
    have h1 : nI i' < nI (S.1 1 0 0) := nI_lt hi (by omega)
    by_cases hw5 : ∀ k, k < 5 → w ≠ nI k
    · have hh := c_has P hw (nI i') w
      have hn : nI i' < 0 ∨ nI (S.1 1 0 0) ≤ nI i' ∨ w < 0 ∨ nI 5 ≤ w := Or.inr (Or.inr (w_out (by decide) hw5))
      rw [if_pos hn] at hh
      have z0 : ¬ w = 0 := hw5 0 (by decide)
      have z1 : ¬ w = 1 := hw5 1 (by decide)
      have z2 : ¬ w = 2 := hw5 2 (by decide)
      have z3 : ¬ w = 3 := hw5 3 (by decide)
      have z4 : ¬ w = 4 := hw5 4 (by decide)
      rw [if_neg z0, if_neg z1, if_neg z2, if_neg z3, if_neg z4]
      simp only [r50, if_neg h0, o9 hv.x, Option.bind_some, hv.cntD, if_true, Option.toList, List.nil_append, List.cons_append, if_pos h1, hh]
    · have hex : ∃ k, k < 5 ∧ w = nI k := Classical.byContradiction (fun hc => hw5 (fun k hk e => hc ⟨k, hk, e⟩))
      obtain ⟨k, hk5, rfl⟩ := hex
      have hh1 := c_has1 P hw hi hk5
      have hc := c_cell P hw hi hk5
      rw [hf i' k hi hk5] at hc
      have run : am_E P 50 0 [some (.ref (ad 0 0 0)), some (.int (nI i')), some (.int (nI k))] [] h = some (some (.int (S.2 4 i' k)), h) := by
        simp only [r50, if_neg h0, o9 hv.x, Option.bind_some, hv.cntD, if_true, Option.toList, List.nil_append, List.cons_append, if_pos h1, hh1, if_neg c01, hc]
      rw [run]
      have hk' : k = 0 ∨ k = 1 ∨ k = 2 ∨ k = 3 ∨ k = 4 := by omega
      rcases hk' with rfl | rfl | rfl | rfl | rfl
      · rw [if_pos (show nI 0 = 0 from rfl)]
      · rw [if_neg (show ¬ nI 1 = 0 by decide), if_pos (show nI 1 = 1 from rfl)]
      · rw [if_neg (show ¬ nI 2 = 0 by decide), if_neg (show ¬ nI 2 = 1 by decide), if_pos (show nI 2 = 2 from rfl)]
      · rw [if_neg (show ¬ nI 3 = 0 by decide), if_neg (show ¬ nI 3 = 1 by decide), if_neg (show ¬ nI 3 = 2 by decide), if_pos (show nI 3 = 3 from rfl)]
      · rw [if_neg (show ¬ nI 4 = 0 by decide), if_neg (show ¬ nI 4 = 1 by decide), if_neg (show ¬ nI 4 = 2 by decide), if_neg (show ¬ nI 4 = 3 by decide), if_pos (show nI 4 = 4 from rfl)]
theorem cc_told (hz : CZ P fx mem K X h S) (hk : KI S c) (hc : c < 100) (w : Int32) : am_E P 51 0 [some (.ref X), some (.int w)] [] h = some (some (.int (sp_told S w)), h) := by
  obtain ⟨ad, rfl, hv⟩ := hz
  have hg := c_gr hv (by have := hk.1.2.2.1; omega) hk.1.1.1.2.2.2.2.2.2.2.1
  unfold sp_told
  simp only [r51, o9 hv.x, Option.bind_some, hv.szO, hv.szR, hv.cntD, if_true, Option.toList, List.nil_append, List.cons_append, hg, o3 hv.ba, fi_i]
end CQ
