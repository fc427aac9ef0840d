/-! The law, from its start to its end. -/
theorem alen_S {h : am_H} {a n : Nat} {f : Nat → Int32} (hc : h.2.2 a = ac_S n f) : am_alen h a = some (nI n) := by
  unfold am_alen
  rw [hc]
  rfl
theorem lt_L {L c : Nat} (hL : L ≤ 256) (hc : c ≤ 64) : nI L - 4 < nI (4 * c) ↔ L < 4 * c + 4 := by
  by_cases h4 : 4 ≤ L
  · have e : nI L - 4 = nI (L - 4) := nI_sub (b := 4) h4
    rw [e, nI_ltI (by omega) (by omega)]
    omega
  · rw [i_lt, nI_toInt (show 4 * c < 2 ^ 31 by omega)]
    have : L = 0 ∨ L = 1 ∨ L = 2 ∨ L = 3 := by omega
    rcases this with rfl | rfl | rfl | rfl
    · have z : (nI 0 - 4).toInt = -4 := by decide
      omega
    · have z : (nI 1 - 4).toInt = -3 := by decide
      omega
    · have z : (nI 2 - 4).toInt = -2 := by decide
      omega
    · have z : (nI 3 - 4).toInt = -1 := by decide
      omega
section LWe
variable {P : Nat × Nat} {K : Nat × Nat} {X b L M : Nat} {xs : Nat → Int32}
theorem law_loop (hb : b < M) (hP : P.1 < M) (h256 : L ≤ 256) : ∀ (d c : Nat) (h : am_H) (S : sp), 4 * c + 4 * d ≤ L → L < 4 * c + 4 * d + 4 → LW P b L xs X M K c h S → ∃ h' S', am_E P 130 18 [some (.ref b), some (.ref X), some (.ref M), some (.int (nI (4 * c)))] [] h = some (some (.int 1), h') ∧ LW P b L xs X M K (c + d) h' S' := by
  intro d
  induction d with
  | zero =>
    intro c h S h1 h2 hL
    refine ⟨h, S, ?_, hL⟩
    have c1 : nI L - 4 < nI (4 * c) := (lt_L h256 (by omega)).mpr (by omega)
    rw [hd130_18]
    simp only [q130_h, alen_S hL.2.2.2, Option.bind_some, if_pos c1, q130_e, or_true, if_true]
  | succ d ih =>
    intro c h S h1 h2 hL
    have c1 : ¬ nI L - 4 < nI (4 * c) := fun e => by have := (lt_L h256 (by omega)).mp e; omega
    have l0 : am_iald h b (nI (4 * c)) = some (xs (4 * c)) := iald_S hL.2.2.2 (by omega) (by omega)
    have st : am_E P 130 18 [some (.ref b), some (.ref X), some (.ref M), some (.int (nI (4 * c)))] [] h = am_E P 130 32 [some (.ref b), some (.ref X), some (.ref M), some (.int (nI (4 * c)))] [.int (xs (4 * c) &&& 31)] h := by
      rw [hd130_18]
      simp only [q130_h, alen_S hL.2.2.2, Option.bind_some, if_neg c1, l0]
    have fin : ∀ pc, (∃ h2 S2, am_E P 130 pc [some (.ref b), some (.ref X), some (.ref M), some (.int (nI (4 * c)))] [] h = am_E P 130 690 [some (.ref b), some (.ref X), some (.ref M), some (.int (nI (4 * c)))] [] h2 ∧ LW P b L xs X M K (c + 1) h2 S2) → ∃ h' S', am_E P 130 pc [some (.ref b), some (.ref X), some (.ref M), some (.int (nI (4 * c)))] [] h = some (some (.int 1), h') ∧ LW P b L xs X M K (c + (d + 1)) h' S' := by
      rintro pc ⟨h2, S2, e1, l2⟩
      obtain ⟨h', S', e2, l3⟩ := ih (c + 1) h2 S2 (by omega) (by omega) l2
      refine ⟨h', S', ?_, by rw [show c + (d + 1) = c + 1 + d by omega]; exact l3⟩
      rw [e1]
      refine Eq.trans ?_ e2
      have e4 : nI (4 * c) + 4 = nI (4 * (c + 1)) := nI_add (4 * c) 4
      simp only [q130_e, e4]
    have hc : c < 64 := by omega
    have hi : 4 * c + 4 ≤ L := by omega
    rw [st, q130_w]
    generalize xs (4 * c) &&& 31 = y
    by_cases y0 : y = 0
    · rw [if_pos y0]
      exact fin 128 (lc_0 hL hb hP hc hi h256)
    rw [if_neg y0]
    by_cases y1 : y = 1
    · rw [if_pos y1]
      exact fin 151 (lc_1 hL hb hP hc hi h256)
    rw [if_neg y1]
    by_cases y2 : y = 2
    · rw [if_pos y2]
      exact fin 194 (lc_2 hL hb hP hc hi h256)
    rw [if_neg y2]
    by_cases y3 : y = 3
    · rw [if_pos y3]
      exact fin 217 (lc_3 hL hb hP hc hi h256)
    rw [if_neg y3]
    by_cases y4 : y = 4
    · rw [if_pos y4]
      exact fin 240 (lc_4 hL hb hP hc hi h256)
    rw [if_neg y4]
    by_cases y5 : y = 5
    · rw [if_pos y5]
      exact fin 253 (lc_5 hL hb hP hc hi h256)
    rw [if_neg y5]
    by_cases y6 : y = 6
    · rw [if_pos y6]
      exact fin 276 (lc_6 hL hb hP hc hi h256)
    rw [if_neg y6]
    by_cases y7 : y = 7
    · rw [if_pos y7]
      exact fin 299 (lc_7 hL hb hP hc hi h256)
    rw [if_neg y7]
    by_cases y8 : y = 8
    · rw [if_pos y8]
      exact fin 332 (lc_8 hL hb hP hc hi h256)
    rw [if_neg y8]
    by_cases y9 : y = 9
    · rw [if_pos y9]
      exact fin 355 (lc_9 hL hb hP hc hi h256)
    rw [if_neg y9]
    by_cases y10 : y = 10
    · rw [if_pos y10]
      exact fin 368 (lc_10 hL hb hP hc hi h256)
    rw [if_neg y10]
    by_cases y11 : y = 11
    · rw [if_pos y11]
      exact fin 401 (lc_11 hL hb hP hc hi h256)
    rw [if_neg y11]
    by_cases y12 : y = 12
    · rw [if_pos y12]
      exact fin 444 (lc_12 hL hb hP hc hi h256)
    rw [if_neg y12]
    by_cases y13 : y = 13
    · rw [if_pos y13]
      exact fin 488 (lc_13 hL hb hP hc hi h256)
    rw [if_neg y13]
    by_cases y14 : y = 14
    · rw [if_pos y14]
      exact fin 532 (lc_14 hL hb hP hc hi h256)
    rw [if_neg y14]
    by_cases y15 : y = 15
    · rw [if_pos y15]
      exact fin 555 (lc_15 hL hb hP hc hi h256)
    rw [if_neg y15]
    by_cases y16 : y = 16
    · rw [if_pos y16]
      exact fin 588 (lc_16 hL hb hP hc hi h256)
    rw [if_neg y16]
    by_cases y17 : y = 17
    · rw [if_pos y17]
      exact fin 621 (lc_17 hL hb hP hc hi h256)
    rw [if_neg y17]
    by_cases y18 : y = 18
    · rw [if_pos y18]
      exact fin 654 (lc_18 hL hb hP hc hi h256)
    rw [if_neg y18]
    by_cases y19 : y = 19
    · rw [if_pos y19]
      exact fin 677 (lc_19 hL hb hP hc hi h256)
    rw [if_neg y19]
    exact fin 690 ⟨h, S, rfl, hL.sk⟩
end LWe
theorem sq_mono {a b : Nat} (h : a ≤ b) : sq a ≤ sq b := by
  unfold sq
  exact Nat.mul_le_mul_left 10 (Nat.mul_le_mul (by omega) (by omega))
theorem w_le {S : sp} {c : Nat} (hk : KI S c) (hc : c ≤ 64) : w1 S ≤ 768 ∧ w2 S ≤ 1489960 := by
  have h1 : S.1 1 0 0 ≤ 192 := by
    have h2 := hk.1.2.1
    unfold PH PD at h2
    omega
  have h0 := hk.1.1.1.lines 0
  have h2 := hk.1.1.1.lines 1
  have h3 := hk.1.1.1.lines 2
  have e : sq 192 = 372490 := rfl
  have s0 := sq_mono (show S.1 1 0 0 ≤ 192 by omega)
  have s1 := sq_mono (show S.1 6 0 0 ≤ 192 by omega)
  have s2 := sq_mono (show S.1 6 1 0 ≤ 192 by omega)
  have s3 := sq_mono (show S.1 6 2 0 ≤ 192 by omega)
  rw [e] at s0 s1 s2 s3
  unfold w1 w2
  exact ⟨by omega, by omega⟩
theorem law_run (P : Nat × Nat) (n : Nat) {b L : Nat} {xs : Nat → Int32} (hb : b < n) (hP : P.1 < n) (hne : b ≠ P.1) (h256 : L ≤ 256) : ∃ h' : am_H, am_E P 130 0 [some (.ref b), none, none, none] [] (sn_h0 n b L xs P) = some (some (.int 1), h') ∧ h'.1 ≤ n + 600000 ∧ h'.2.1 ≤ 7302250 := by
  have cb : (sn_h0 n b L xs P).2.2 b = ac_S L xs := by simp [sn_h0, va_up]
  have cP : (sn_h0 n b L xs P).2.2 P.1 = ac_E := by simp [sn_h0, va_up, Ne.symm hne]
  have q0 : (sn_h0 n b L xs P).1 = n := rfl
  have s0 : (sn_h0 n b L xs P).2.1 = 0 := rfl
  generalize sn_h0 n b L xs P = h0 at *
  have N0 : NO n 9 0 (fun _ => ac_O 8 [.null, .null, .null, .null, .int 0, .int 0, .int 0, .int 0, .int 0]) h0.2.2 (ah_new h0 9 (ac_O 8 [.null, .null, .null, .null, .int 0, .int 0, .int 0, .int 0, .int 0])) :=
    ⟨by show h0.1 + 1 = _; omega, by show h0.2.1 + 9 = _; omega, fun i hi => by
      obtain rfl : i = 0 := by omega
      rw [Nat.add_zero, ← q0, an_same], fun a ha => an_ne (by omega)⟩
  obtain ⟨H1, g, e1, N1, g0, g1, g2, g3, g4, g5, g6⟩ := c_born P N0 rfl
  have q1 : H1.1 = n + 7 := N1.1
  have s1 : H1.2.1 = 381 := N1.2.1
  obtain ⟨H2, e2, m2⟩ := k_newM P (M := n + 7) (s := 415) (h := ah_new H1 34 (ac_O 9 (p_df 9))) (by show H1.1 + 1 = _; omega) (by show H1.2.1 + 34 = _; omega) (by rw [← q1, an_same])
  obtain ⟨f, F, ⟨a1, a2, a3, a4, a5⟩, r⟩ := id m2
  have low : ∀ a, a < n + 7 → H2.2.2 a = H1.2.2 a := fun a ha => by
    rw [a5 a (Or.inl ha), an_ne (by omega)]
  have cb2 : H2.2.2 b = ac_S L xs := by rw [low b (by omega), N1.2.2.2 b hb]; exact cb
  have cP2 : H2.2.2 P.1 = ac_E := by rw [low P.1 (by omega), N1.2.2.2 P.1 hP]; exact cP
  have q2 : H2.1 = n + 31 := by rw [a1]
  have z0 : CZ P (fxl P b (n + 7)) H2.2.2 (H2.1, H2.2.1) n H2 S0 := CZ_0 P (fxl P b (n + 7)) (q := n) (g := g) (fun i hi => by rw [low (n + i) (by omega)]; exact N1.2.2.1 i hi) (by omega) (fun i hi hx => by
    rcases hx with e | e | e
    · omega
    · omega
    · omega) (fun a ha => by
    rcases ha with e | e | e
    · omega
    · omega
    · omega) (Or.inr (Or.inl rfl)) cP2 g0 g1 g2 g3 g4 g5 g6
  have L0 : LW P b L xs n (n + 7) (H2.1, H2.2.1) 0 H2 S0 := ⟨KI_0, ⟨0, f, F, ⟨rfl, rfl, a3, a4, fun _ _ => rfl⟩, r⟩, z0.kup (Nat.le_refl _) (Nat.le_refl _), cb2⟩
  obtain ⟨h', S', e3, l3⟩ := law_loop (show b < n + 7 by omega) (show P.1 < n + 7 by omega) h256 (L / 4) 0 H2 S0 (by omega) (by omega) L0
  obtain ⟨w1', w2'⟩ := w_le l3.1 (by omega)
  obtain ⟨b1, b2⟩ := l3.2.2.1.bd
  refine ⟨h', ?_, ?_, ?_⟩
  · refine Eq.trans ?_ e3
    have e2 : am_E P 71 0 [some (.ref (n + 7)), none] [] (ah_new H1 34 (ac_O 9 [.int 0, .null, .null, .null, .null, .null, .null, .null, .int 0, .null, .null, .null, .null, .null, .null, .null, .null, .null, .null, .null, .null, .null, .int 0, .null, .null, .int 0, .null, .int 0, .int 0, .int 0, .int 0, .int 0, .int 0, .int 0])) = some (none, H2) := e2
    simp only [q130_s, q0, e1, Option.bind_some, Option.toList, List.nil_append, q1, e2]
    rfl
  · have b1 : h'.1 ≤ H2.1 + 100 * (0 + L / 4) + w1 S' := b1
    omega
  · have b2 : h'.2.1 ≤ H2.2.1 + 10000 * (0 + L / 4) + w2 S' := b2
    have a2 : H2.2.1 = 44852 := a2
    omega
/-- YOUR PART: from the entry, for every script of at most 256 ints, the law comes to its end with true -/
theorem whole_start {p : Program} {e : Env} {s : State} {m : MethodId} {below : List Frame} {meth : Method} {c : Code} (l : Launch) {b L : Nat} {xs : Nat → Int32} (hL : L ≤ 256) (C0 : lw_At p s m meth c b L xs) : W p l e room_1 s m #[Value.ref b] below meth c s.heap [] 0 0 (lw_Z below #[Value.ref b] s) (entryFrame m ([Value.ref b] : List Value).toArray 4) :=
  sn_start l C0 (fun P n hb hP hne => law_run P n hb hP hne hL)
