/-! The law: class and model side by side. -/
theorem iald_S {h : am_H} {a n k : Nat} {f : Nat → Int32} (hc : h.2.2 a = ac_S n f) (hk : k < n) (hn : n < 2 ^ 31) : am_iald h a (nI k) = some (f k) := by
  unfold am_iald
  rw [hc]
  simp only [am_ix_nI hk hn, Option.map_some]
theorem lg_self (a : Int64) : lg_cmp a a = 0 := by
  unfold lg_cmp
  simp
/-- what the class leaves alone: the script, the empty array, the model -/
def fxl (P : Nat × Nat) (b M : Nat) : Nat → Prop := fun a => a = b ∨ a = P.1 ∨ (M ≤ a ∧ a ≤ M + 23)
section LWs
variable {P : Nat × Nat} {fx : Nat → Prop} {mem : Nat → am_C} {K K' : Nat × Nat} {h h1 h2 : am_H} {S S' S'' : sp} {X b L M c : Nat} {xs : Nat → Int32} {pd : Int32}
theorem CZ.kup (hz : CZ P fx mem K X h S) (h1 : K.1 ≤ K'.1) (h2 : K.2 ≤ K'.2) : CZ P fx mem K' X h S := by
  obtain ⟨ad, e, hv⟩ := hz
  exact ⟨ad, e, hv.kup h1 h2⟩
theorem CZ.cl8 (hz : CZ P fx mem K X h S) : am_cls h X = some 8 := by
  obtain ⟨ad, rfl, hv⟩ := hz
  exact cl_of hv.x
theorem CZ.fd (hz : CZ P fx mem K X h S) {a : Nat} (ha : fx a) : a < h.1 ∧ h.2.2 a = mem a := by
  obtain ⟨ad, rfl, hv⟩ := hz
  exact hv.fxd ha
theorem CZ.bd (hz : CZ P fx mem K X h S) : h.1 ≤ K.1 + w1 S ∧ h.2.1 ≤ K.2 + w2 S := by
  obtain ⟨ad, rfl, ae, hv⟩ := hz
  exact ⟨hv.2.2.2.2.2.1, hv.2.2.2.2.2.2⟩
/-- behind a call of the class's -/
theorem MS.by (hm : MS M h.1 h.2.1 h.2.2 pd h S) (hz : CZ P (fxl P b M) h.2.2 K X h1 S') : MS M h1.1 h1.2.1 h1.2.2 pd h1 S := by
  obtain ⟨f, F, ⟨a1, a2, a3, a4, a5⟩, r⟩ := hm
  refine ⟨f, F, ⟨rfl, rfl, ?_, fun j j1 j2 => ?_, fun _ _ => rfl⟩, r⟩
  · rw [(hz.fd (a := M) (Or.inr (Or.inr ⟨Nat.le_refl _, by omega⟩))).2]; exact a3
  · rw [(hz.fd (a := M + j) (Or.inr (Or.inr ⟨by omega, by omega⟩))).2]; exact a4 j j1 j2
/-- behind a call of the model's -/
theorem CZ.by (hz : CZ P (fxl P b M) mem K X h1 S) (hm : MS M h1.1 h1.2.1 h1.2.2 pd h2 S'') (hb : b < M) (hP : P.1 < M) : CZ P (fxl P b M) h2.2.2 K X h2 S ∧ h2.2.2 b = h1.2.2 b := by
  obtain ⟨f, F, ⟨a1, a2, a3, a4, a5⟩, r⟩ := hm
  obtain ⟨ad, e, ae, hv⟩ := hz
  refine ⟨⟨ad, e, ae, hv.upd (fun _ _ _ => False) (fun a i j hl _ => ⟨hl, rfl, fun c hc => hc⟩) (by omega) (fun k i j g1 _ _ => a5 _ ?_) (fun k i j g1 _ _ => (hv.1 k i j g1).2.1) (fun _ _ _ _ hn => hn.elim) hv.2.1 (fun a ha => ⟨by rw [a1]; exact (hv.2.2.1 a ha).1, rfl⟩) hv.2.2.2.1 ?_ (by rw [a1]; exact hv.2.2.2.2.2.1) (by rw [a2]; exact hv.2.2.2.2.2.2)⟩, a5 b (Or.inl hb)⟩
  · have := (hv.1 k i j g1).2.1
    by_cases hlt : jn ad ae k i j < M
    · exact Or.inl hlt
    · right
      by_cases hgt : M + 23 < jn ad ae k i j
      · exact hgt
      · exact absurd (Or.inr (Or.inr ⟨by omega, by omega⟩)) this
  · rw [a5 P.1 (Or.inl hP)]
    exact (hv.2.2.1 P.1 hv.2.2.2.1).2.trans hv.2.2.2.2.1
/-- class and model agree, behind c calls -/
def LW (P : Nat × Nat) (b L : Nat) (xs : Nat → Int32) (X M : Nat) (K : Nat × Nat) (c : Nat) (h : am_H) (S : sp) : Prop := KI S c ∧ (∃ pd, MS M h.1 h.2.1 h.2.2 pd h S) ∧ CZ P (fxl P b M) h.2.2 (K.1 + 100 * c, K.2 + 10000 * c) X h S ∧ h.2.2 b = ac_S L xs
theorem LW.nx (hz : CZ P (fxl P b M) h.2.2 (K.1 + 100 * c + 100, K.2 + 10000 * c + 10000) X h1 S') (hs : h1.2.2 b = ac_S L xs) (hm : MS M h1.1 h1.2.1 h1.2.2 pd h2 S') (hb : b < M) (hP : P.1 < M) (hk : KI S' (c + 1)) : LW P b L xs X M K (c + 1) h2 S' := by
  obtain ⟨z1, z2⟩ := hz.by hm hb hP
  have e : MS M h2.1 h2.2.1 h2.2.2 pd h2 S' := by
    obtain ⟨f, F, ⟨a1, a2, a3, a4, a5⟩, r⟩ := hm
    exact ⟨f, F, ⟨rfl, rfl, a3, a4, fun _ _ => rfl⟩, r⟩
  exact ⟨hk, ⟨pd, e⟩, z1.kup (by show K.1 + 100 * c + 100 ≤ K.1 + 100 * (c + 1); omega) (by show K.2 + 10000 * c + 10000 ≤ K.2 + 10000 * (c + 1); omega), z2.trans hs⟩
theorem LW.sk (hL : LW P b L xs X M K c h S) : LW P b L xs X M K (c + 1) h S := ⟨hL.1.mono, hL.2.1, hL.2.2.1.kup (by show K.1 + 100 * c ≤ K.1 + 100 * (c + 1); omega) (by show K.2 + 10000 * c ≤ K.2 + 10000 * (c + 1); omega), hL.2.2.2⟩
theorem lc_0 (hL : LW P b L xs X M K c h S) (hb : b < M) (hP : P.1 < M) (hc : c < 64) (hi : 4 * c + 4 ≤ L) (h256 : L ≤ 256) : ∃ h2 S2, am_E P 130 128 [some (.ref b), some (.ref X), some (.ref M), some (.int (nI (4 * c)))] [] h = am_E P 130 690 [some (.ref b), some (.ref X), some (.ref M), some (.int (nI (4 * c)))] [] h2 ∧ LW P b L xs X M K (c + 1) h2 S2 := by
  obtain ⟨hk, ⟨pd, m0⟩, hz, hs⟩ := id hL
  have l1 : am_iald h b (nI (4 * c) + 1) = some (xs (4 * c + 1)) := by
    have := iald_S hs (k := 4 * c + 1) (by omega) (by omega)
    rw [← nI_add] at this
    exact this
  obtain ⟨h1, e1, z1⟩ := cc_output hz hk (xs (4 * c + 1))
  have m1 := m0.by z1
  have s1 : h1.2.2 b = ac_S L xs := (z1.fd (Or.inl rfl)).2.trans hs
  have k1 : am_iald h1 b (nI (4 * c) + 1) = some (xs (4 * c + 1)) := by
    have := iald_S s1 (k := 4 * c + 1) (by omega) (by omega)
    rw [← nI_add] at this
    exact this
  obtain ⟨h2, pd', e2, m2⟩ := k_output P m1 hk (by omega) (xs (4 * c + 1))
  refine ⟨h2, _, ?_, LW.nx z1 s1 m2 hb hP (hk.output)⟩
  simp only [q130_c0, hz.cl8, if_true, Option.bind_some, Option.toList, List.nil_append, List.cons_append, eq_self, l1, e1, m1.c, k1, e2]
theorem lc_1 (hL : LW P b L xs X M K c h S) (hb : b < M) (hP : P.1 < M) (hc : c < 64) (hi : 4 * c + 4 ≤ L) (h256 : L ≤ 256) : ∃ h2 S2, am_E P 130 151 [some (.ref b), some (.ref X), some (.ref M), some (.int (nI (4 * c)))] [] h = am_E P 130 690 [some (.ref b), some (.ref X), some (.ref M), some (.int (nI (4 * c)))] [] h2 ∧ LW P b L xs X M K (c + 1) h2 S2 := by
  obtain ⟨hk, ⟨pd, m0⟩, hz, hs⟩ := id hL
  have l1 : am_iald h b (nI (4 * c) + 1) = some (xs (4 * c + 1)) := by
    have := iald_S hs (k := 4 * c + 1) (by omega) (by omega)
    rw [← nI_add] at this
    exact this
  have l2 : am_iald h b (nI (4 * c) + 2) = some (xs (4 * c + 2)) := by
    have := iald_S hs (k := 4 * c + 2) (by omega) (by omega)
    rw [← nI_add] at this
    exact this
  have l3 : am_iald h b (nI (4 * c) + 3) = some (xs (4 * c + 3)) := by
    have := iald_S hs (k := 4 * c + 3) (by omega) (by omega)
    rw [← nI_add] at this
    exact this
  obtain ⟨h1, e1, z1⟩ := cc_write hz hk (xs (4 * c + 1)) (xs (4 * c + 2)) (xs (4 * c + 3))
  have m1 := m0.by z1
  have s1 : h1.2.2 b = ac_S L xs := (z1.fd (Or.inl rfl)).2.trans hs
  have k1 : am_iald h1 b (nI (4 * c) + 1) = some (xs (4 * c + 1)) := by
    have := iald_S s1 (k := 4 * c + 1) (by omega) (by omega)
    rw [← nI_add] at this
    exact this
  have k2 : am_iald h1 b (nI (4 * c) + 2) = some (xs (4 * c + 2)) := by
    have := iald_S s1 (k := 4 * c + 2) (by omega) (by omega)
    rw [← nI_add] at this
    exact this
  have k3 : am_iald h1 b (nI (4 * c) + 3) = some (xs (4 * c + 3)) := by
    have := iald_S s1 (k := 4 * c + 3) (by omega) (by omega)
    rw [← nI_add] at this
    exact this
  obtain ⟨h2, pd', e2, m2⟩ := k_write P m1 hk (xs (4 * c + 1)) (xs (4 * c + 2)) (xs (4 * c + 3))
  refine ⟨h2, _, ?_, LW.nx z1 s1 m2 hb hP (hk.write)⟩
  simp only [q130_c1, hz.cl8, if_true, Option.bind_some, Option.toList, List.nil_append, List.cons_append, eq_self, l1, l2, l3, e1, m1.c, k1, k2, k3, e2]
theorem lc_2 (hL : LW P b L xs X M K c h S) (hb : b < M) (hP : P.1 < M) (hc : c < 64) (hi : 4 * c + 4 ≤ L) (h256 : L ≤ 256) : ∃ h2 S2, am_E P 130 194 [some (.ref b), some (.ref X), some (.ref M), some (.int (nI (4 * c)))] [] h = am_E P 130 690 [some (.ref b), some (.ref X), some (.ref M), some (.int (nI (4 * c)))] [] h2 ∧ LW P b L xs X M K (c + 1) h2 S2 := by
  obtain ⟨hk, ⟨pd, m0⟩, hz, hs⟩ := id hL
  have hf : fxl P b M P.1 := Or.inr (Or.inl rfl)
  have l1 : am_iald h b (nI (4 * c) + 1) = some (xs (4 * c + 1)) := by
    have := iald_S hs (k := 4 * c + 1) (by omega) (by omega)
    rw [← nI_add] at this
    exact this
  obtain ⟨h1, e1, z1⟩ := cc_barrier hz hf hk (by omega) (xs (4 * c + 1))
  have m1 := m0.by z1
  have s1 : h1.2.2 b = ac_S L xs := (z1.fd (Or.inl rfl)).2.trans hs
  have k1 : am_iald h1 b (nI (4 * c) + 1) = some (xs (4 * c + 1)) := by
    have := iald_S s1 (k := 4 * c + 1) (by omega) (by omega)
    rw [← nI_add] at this
    exact this
  obtain ⟨h2, pd', e2, m2⟩ := k_barrier P m1 hk (by omega) (xs (4 * c + 1))
  refine ⟨h2, _, ?_, LW.nx z1 s1 m2 hb hP (hk.barrier (by omega))⟩
  simp only [q130_c2, hz.cl8, if_true, Option.bind_some, Option.toList, List.nil_append, List.cons_append, eq_self, l1, e1, m1.c, k1, e2]
theorem lc_3 (hL : LW P b L xs X M K c h S) (hb : b < M) (hP : P.1 < M) (hc : c < 64) (hi : 4 * c + 4 ≤ L) (h256 : L ≤ 256) : ∃ h2 S2, am_E P 130 217 [some (.ref b), some (.ref X), some (.ref M), some (.int (nI (4 * c)))] [] h = am_E P 130 690 [some (.ref b), some (.ref X), some (.ref M), some (.int (nI (4 * c)))] [] h2 ∧ LW P b L xs X M K (c + 1) h2 S2 := by
  obtain ⟨hk, ⟨pd, m0⟩, hz, hs⟩ := id hL
  have l1 : am_iald h b (nI (4 * c) + 1) = some (xs (4 * c + 1)) := by
    have := iald_S hs (k := 4 * c + 1) (by omega) (by omega)
    rw [← nI_add] at this
    exact this
  obtain ⟨h1, e1, z1⟩ := cc_keep hz hk (by omega) (xs (4 * c + 1))
  have m1 := m0.by z1
  have s1 : h1.2.2 b = ac_S L xs := (z1.fd (Or.inl rfl)).2.trans hs
  have k1 : am_iald h1 b (nI (4 * c) + 1) = some (xs (4 * c + 1)) := by
    have := iald_S s1 (k := 4 * c + 1) (by omega) (by omega)
    rw [← nI_add] at this
    exact this
  obtain ⟨h2, pd', e2, m2⟩ := k_keep P m1 hk (by omega) (xs (4 * c + 1))
  refine ⟨h2, _, ?_, LW.nx z1 s1 m2 hb hP (hk.keep (by omega))⟩
  simp only [q130_c3, hz.cl8, if_true, Option.bind_some, Option.toList, List.nil_append, List.cons_append, eq_self, l1, e1, m1.c, k1, e2]
theorem lc_4 (hL : LW P b L xs X M K c h S) (hb : b < M) (hP : P.1 < M) (hc : c < 64) (hi : 4 * c + 4 ≤ L) (h256 : L ≤ 256) : ∃ h2 S2, am_E P 130 240 [some (.ref b), some (.ref X), some (.ref M), some (.int (nI (4 * c)))] [] h = am_E P 130 690 [some (.ref b), some (.ref X), some (.ref M), some (.int (nI (4 * c)))] [] h2 ∧ LW P b L xs X M K (c + 1) h2 S2 := by
  obtain ⟨hk, ⟨pd, m0⟩, hz, hs⟩ := id hL
  obtain ⟨h1, e1, z1⟩ := cc_show hz hk
  have m1 := m0.by z1
  have s1 : h1.2.2 b = ac_S L xs := (z1.fd (Or.inl rfl)).2.trans hs
  obtain ⟨h2, pd', e2, m2⟩ := k_show P m1 hk
  refine ⟨h2, _, ?_, LW.nx z1 s1 m2 hb hP (hk.show)⟩
  simp only [q130_c4, hz.cl8, if_true, Option.bind_some, Option.toList, List.nil_append, List.cons_append, eq_self, e1, m1.c, e2]
theorem lc_5 (hL : LW P b L xs X M K c h S) (hb : b < M) (hP : P.1 < M) (hc : c < 64) (hi : 4 * c + 4 ≤ L) (h256 : L ≤ 256) : ∃ h2 S2, am_E P 130 253 [some (.ref b), some (.ref X), some (.ref M), some (.int (nI (4 * c)))] [] h = am_E P 130 690 [some (.ref b), some (.ref X), some (.ref M), some (.int (nI (4 * c)))] [] h2 ∧ LW P b L xs X M K (c + 1) h2 S2 := by
  obtain ⟨hk, ⟨pd, m0⟩, hz, hs⟩ := id hL
  have l1 : am_iald h b (nI (4 * c) + 1) = some (xs (4 * c + 1)) := by
    have := iald_S hs (k := 4 * c + 1) (by omega) (by omega)
    rw [← nI_add] at this
    exact this
  obtain ⟨h1, e1, z1⟩ := cc_give hz hk (by omega) (xs (4 * c + 1))
  have m1 := m0.by z1
  have s1 : h1.2.2 b = ac_S L xs := (z1.fd (Or.inl rfl)).2.trans hs
  have k1 : am_iald h1 b (nI (4 * c) + 1) = some (xs (4 * c + 1)) := by
    have := iald_S s1 (k := 4 * c + 1) (by omega) (by omega)
    rw [← nI_add] at this
    exact this
  obtain ⟨h2, pd', e2, m2⟩ := k_give P (m := (xs (4 * c + 1))) m1 hk.1.1 hk.1.2.2.2.2.1 (by have := hk.1.2.2.1; omega)
  refine ⟨h2, _, ?_, LW.nx z1 s1 m2 hb hP (hk.give)⟩
  simp only [q130_c5, hz.cl8, if_true, Option.bind_some, Option.toList, List.nil_append, List.cons_append, eq_self, l1, e1, m1.c, k1, e2]
theorem lc_6 (hL : LW P b L xs X M K c h S) (hb : b < M) (hP : P.1 < M) (hc : c < 64) (hi : 4 * c + 4 ≤ L) (h256 : L ≤ 256) : ∃ h2 S2, am_E P 130 276 [some (.ref b), some (.ref X), some (.ref M), some (.int (nI (4 * c)))] [] h = am_E P 130 690 [some (.ref b), some (.ref X), some (.ref M), some (.int (nI (4 * c)))] [] h2 ∧ LW P b L xs X M K (c + 1) h2 S2 := by
  obtain ⟨hk, ⟨pd, m0⟩, hz, hs⟩ := id hL
  have hf : fxl P b M P.1 := Or.inr (Or.inl rfl)
  have l1 : am_iald h b (nI (4 * c) + 1) = some (xs (4 * c + 1)) := by
    have := iald_S hs (k := 4 * c + 1) (by omega) (by omega)
    rw [← nI_add] at this
    exact this
  obtain ⟨h1, e1, z1⟩ := cc_end hz hf hk (by omega) (xs (4 * c + 1))
  have m1 := m0.by z1
  have s1 : h1.2.2 b = ac_S L xs := (z1.fd (Or.inl rfl)).2.trans hs
  have k1 : am_iald h1 b (nI (4 * c) + 1) = some (xs (4 * c + 1)) := by
    have := iald_S s1 (k := 4 * c + 1) (by omega) (by omega)
    rw [← nI_add] at this
    exact this
  obtain ⟨h2, pd', e2, m2⟩ := k_end P m1 hk (by omega) (xs (4 * c + 1))
  refine ⟨h2, _, ?_, LW.nx z1 s1 m2 hb hP (hk.end (by omega))⟩
  simp only [q130_c6, hz.cl8, if_true, Option.bind_some, Option.toList, List.nil_append, List.cons_append, eq_self, l1, e1, m1.c, k1, e2]
theorem lc_7 (hL : LW P b L xs X M K c h S) (hb : b < M) (hP : P.1 < M) (hc : c < 64) (hi : 4 * c + 4 ≤ L) (h256 : L ≤ 256) : ∃ h2 S2, am_E P 130 299 [some (.ref b), some (.ref X), some (.ref M), some (.int (nI (4 * c)))] [] h = am_E P 130 690 [some (.ref b), some (.ref X), some (.ref M), some (.int (nI (4 * c)))] [] h2 ∧ LW P b L xs X M K (c + 1) h2 S2 := by
  obtain ⟨hk, ⟨pd, m0⟩, hz, hs⟩ := id hL
  have l1 : am_iald h b (nI (4 * c) + 1) = some (xs (4 * c + 1)) := by
    have := iald_S hs (k := 4 * c + 1) (by omega) (by omega)
    rw [← nI_add] at this
    exact this
  have l2 : am_iald h b (nI (4 * c) + 2) = some (xs (4 * c + 2)) := by
    have := iald_S hs (k := 4 * c + 2) (by omega) (by omega)
    rw [← nI_add] at this
    exact this
  obtain ⟨h1, e1, z1⟩ := cc_fails hz hk (xs (4 * c + 1)) (xs (4 * c + 2))
  have m1 := m0.by z1
  have s1 : h1.2.2 b = ac_S L xs := (z1.fd (Or.inl rfl)).2.trans hs
  have k1 : am_iald h1 b (nI (4 * c) + 1) = some (xs (4 * c + 1)) := by
    have := iald_S s1 (k := 4 * c + 1) (by omega) (by omega)
    rw [← nI_add] at this
    exact this
  have k2 : am_iald h1 b (nI (4 * c) + 2) = some (xs (4 * c + 2)) := by
    have := iald_S s1 (k := 4 * c + 2) (by omega) (by omega)
    rw [← nI_add] at this
    exact this
  obtain ⟨h2, pd', e2, m2⟩ := k_fails P m1 hk (xs (4 * c + 1)) (xs (4 * c + 2))
  refine ⟨h2, _, ?_, LW.nx z1 s1 m2 hb hP (hk.fails)⟩
  simp only [q130_c7, hz.cl8, if_true, Option.bind_some, Option.toList, List.nil_append, List.cons_append, eq_self, l1, l2, e1, m1.c, k1, k2, e2]
theorem lc_8 (hL : LW P b L xs X M K c h S) (hb : b < M) (hP : P.1 < M) (hc : c < 64) (hi : 4 * c + 4 ≤ L) (h256 : L ≤ 256) : ∃ h2 S2, am_E P 130 332 [some (.ref b), some (.ref X), some (.ref M), some (.int (nI (4 * c)))] [] h = am_E P 130 690 [some (.ref b), some (.ref X), some (.ref M), some (.int (nI (4 * c)))] [] h2 ∧ LW P b L xs X M K (c + 1) h2 S2 := by
  obtain ⟨hk, ⟨pd, m0⟩, hz, hs⟩ := id hL
  have l1 : am_iald h b (nI (4 * c) + 1) = some (xs (4 * c + 1)) := by
    have := iald_S hs (k := 4 * c + 1) (by omega) (by omega)
    rw [← nI_add] at this
    exact this
  obtain ⟨h1, e1, z1⟩ := cc_power hz (xs (4 * c + 1))
  have m1 := m0.by z1
  have s1 : h1.2.2 b = ac_S L xs := (z1.fd (Or.inl rfl)).2.trans hs
  have k1 : am_iald h1 b (nI (4 * c) + 1) = some (xs (4 * c + 1)) := by
    have := iald_S s1 (k := 4 * c + 1) (by omega) (by omega)
    rw [← nI_add] at this
    exact this
  obtain ⟨h2, pd', e2, m2⟩ := k_power P m1 (xs (4 * c + 1))
  refine ⟨h2, _, ?_, LW.nx z1 s1 m2 hb hP (hk.power)⟩
  simp only [q130_c8, hz.cl8, if_true, Option.bind_some, Option.toList, List.nil_append, List.cons_append, eq_self, l1, e1, m1.c, k1, e2]
theorem lc_9 (hL : LW P b L xs X M K c h S) (hb : b < M) (hP : P.1 < M) (hc : c < 64) (hi : 4 * c + 4 ≤ L) (h256 : L ≤ 256) : ∃ h2 S2, am_E P 130 355 [some (.ref b), some (.ref X), some (.ref M), some (.int (nI (4 * c)))] [] h = am_E P 130 690 [some (.ref b), some (.ref X), some (.ref M), some (.int (nI (4 * c)))] [] h2 ∧ LW P b L xs X M K (c + 1) h2 S2 := by
  obtain ⟨hk, ⟨pd, m0⟩, hz, hs⟩ := id hL
  obtain ⟨h1, e1, z1⟩ := cc_open hz hk (by omega)
  have m1 := m0.by z1
  have s1 : h1.2.2 b = ac_S L xs := (z1.fd (Or.inl rfl)).2.trans hs
  obtain ⟨h2, pd', e2, m2⟩ := k_open P m1 hk (by omega)
  refine ⟨h2, _, ?_, LW.nx z1 s1 m2 hb hP (hk.opn)⟩
  simp only [q130_c9, hz.cl8, if_true, Option.bind_some, Option.toList, List.nil_append, List.cons_append, eq_self, e1, m1.c, e2]
theorem lc_10 (hL : LW P b L xs X M K c h S) (hb : b < M) (hP : P.1 < M) (hc : c < 64) (hi : 4 * c + 4 ≤ L) (h256 : L ≤ 256) : ∃ h2 S2, am_E P 130 368 [some (.ref b), some (.ref X), some (.ref M), some (.int (nI (4 * c)))] [] h = am_E P 130 690 [some (.ref b), some (.ref X), some (.ref M), some (.int (nI (4 * c)))] [] h2 ∧ LW P b L xs X M K (c + 1) h2 S2 := by
  obtain ⟨hk, ⟨pd, m0⟩, hz, hs⟩ := id hL
  have l1 : am_iald h b (nI (4 * c) + 1) = some (xs (4 * c + 1)) := by
    have := iald_S hs (k := 4 * c + 1) (by omega) (by omega)
    rw [← nI_add] at this
    exact this
  have l2 : am_iald h b (nI (4 * c) + 2) = some (xs (4 * c + 2)) := by
    have := iald_S hs (k := 4 * c + 2) (by omega) (by omega)
    rw [← nI_add] at this
    exact this
  have e1 := cc_about hz hk (xs (4 * c + 1)) (xs (4 * c + 2))
  have m1 := m0
  have e2 := k_about P m1 hk (by omega) (xs (4 * c + 1)) (xs (4 * c + 2))
  refine ⟨h, S, ?_, hL.sk⟩
  simp only [q130_c10, hz.cl8, if_true, Option.bind_some, Option.toList, List.nil_append, List.cons_append, eq_self, l1, l2, e1, m1.c, e2]
theorem lc_11 (hL : LW P b L xs X M K c h S) (hb : b < M) (hP : P.1 < M) (hc : c < 64) (hi : 4 * c + 4 ≤ L) (h256 : L ≤ 256) : ∃ h2 S2, am_E P 130 401 [some (.ref b), some (.ref X), some (.ref M), some (.int (nI (4 * c)))] [] h = am_E P 130 690 [some (.ref b), some (.ref X), some (.ref M), some (.int (nI (4 * c)))] [] h2 ∧ LW P b L xs X M K (c + 1) h2 S2 := by
  obtain ⟨hk, ⟨pd, m0⟩, hz, hs⟩ := id hL
  have l1 : am_iald h b (nI (4 * c) + 1) = some (xs (4 * c + 1)) := by
    have := iald_S hs (k := 4 * c + 1) (by omega) (by omega)
    rw [← nI_add] at this
    exact this
  have l2 : am_iald h b (nI (4 * c) + 2) = some (xs (4 * c + 2)) := by
    have := iald_S hs (k := 4 * c + 2) (by omega) (by omega)
    rw [← nI_add] at this
    exact this
  have l3 : am_iald h b (nI (4 * c) + 3) = some (xs (4 * c + 3)) := by
    have := iald_S hs (k := 4 * c + 3) (by omega) (by omega)
    rw [← nI_add] at this
    exact this
  have e1 := cc_part hz hk (xs (4 * c + 1)) (xs (4 * c + 2)) (xs (4 * c + 3))
  have m1 := m0
  have e2 := k_part P m1 hk (by omega) (xs (4 * c + 1)) (xs (4 * c + 2)) (xs (4 * c + 3))
  refine ⟨h, S, ?_, hL.sk⟩
  simp only [q130_c11, hz.cl8, if_true, Option.bind_some, Option.toList, List.nil_append, List.cons_append, eq_self, l1, l2, l3, e1, m1.c, e2]
theorem lc_12 (hL : LW P b L xs X M K c h S) (hb : b < M) (hP : P.1 < M) (hc : c < 64) (hi : 4 * c + 4 ≤ L) (h256 : L ≤ 256) : ∃ h2 S2, am_E P 130 444 [some (.ref b), some (.ref X), some (.ref M), some (.int (nI (4 * c)))] [] h = am_E P 130 690 [some (.ref b), some (.ref X), some (.ref M), some (.int (nI (4 * c)))] [] h2 ∧ LW P b L xs X M K (c + 1) h2 S2 := by
  obtain ⟨hk, ⟨pd, m0⟩, hz, hs⟩ := id hL
  have l1 : am_iald h b (nI (4 * c) + 1) = some (xs (4 * c + 1)) := by
    have := iald_S hs (k := 4 * c + 1) (by omega) (by omega)
    rw [← nI_add] at this
    exact this
  have l2 : am_iald h b (nI (4 * c) + 2) = some (xs (4 * c + 2)) := by
    have := iald_S hs (k := 4 * c + 2) (by omega) (by omega)
    rw [← nI_add] at this
    exact this
  have l3 : am_iald h b (nI (4 * c) + 3) = some (xs (4 * c + 3)) := by
    have := iald_S hs (k := 4 * c + 3) (by omega) (by omega)
    rw [← nI_add] at this
    exact this
  have e1 := cc_lineQ hz hk (xs (4 * c + 1)) (xs (4 * c + 2)) (xs (4 * c + 3))
  have m1 := m0
  have e2 := k_lineQ P m1 hk (by omega) (xs (4 * c + 1)) (xs (4 * c + 2)) (xs (4 * c + 3))
  refine ⟨h, S, ?_, hL.sk⟩
  simp only [q130_c12, hz.cl8, if_true, Option.bind_some, Option.toList, List.nil_append, List.cons_append, eq_self, l1, l2, l3, e1, m1.c, e2, lg_self]
theorem lc_13 (hL : LW P b L xs X M K c h S) (hb : b < M) (hP : P.1 < M) (hc : c < 64) (hi : 4 * c + 4 ≤ L) (h256 : L ≤ 256) : ∃ h2 S2, am_E P 130 488 [some (.ref b), some (.ref X), some (.ref M), some (.int (nI (4 * c)))] [] h = am_E P 130 690 [some (.ref b), some (.ref X), some (.ref M), some (.int (nI (4 * c)))] [] h2 ∧ LW P b L xs X M K (c + 1) h2 S2 := by
  obtain ⟨hk, ⟨pd, m0⟩, hz, hs⟩ := id hL
  have l1 : am_iald h b (nI (4 * c) + 1) = some (xs (4 * c + 1)) := by
    have := iald_S hs (k := 4 * c + 1) (by omega) (by omega)
    rw [← nI_add] at this
    exact this
  have l2 : am_iald h b (nI (4 * c) + 2) = some (xs (4 * c + 2)) := by
    have := iald_S hs (k := 4 * c + 2) (by omega) (by omega)
    rw [← nI_add] at this
    exact this
  have l3 : am_iald h b (nI (4 * c) + 3) = some (xs (4 * c + 3)) := by
    have := iald_S hs (k := 4 * c + 3) (by omega) (by omega)
    rw [← nI_add] at this
    exact this
  have e1 := cc_lastQ hz hk (xs (4 * c + 1)) (xs (4 * c + 2)) (xs (4 * c + 3))
  have m1 := m0
  have e2 := k_lastQ P m1 hk (by omega) (xs (4 * c + 1)) (xs (4 * c + 2)) (xs (4 * c + 3))
  refine ⟨h, S, ?_, hL.sk⟩
  simp only [q130_c13, hz.cl8, if_true, Option.bind_some, Option.toList, List.nil_append, List.cons_append, eq_self, l1, l2, l3, e1, m1.c, e2, lg_self]
theorem lc_14 (hL : LW P b L xs X M K c h S) (hb : b < M) (hP : P.1 < M) (hc : c < 64) (hi : 4 * c + 4 ≤ L) (h256 : L ≤ 256) : ∃ h2 S2, am_E P 130 532 [some (.ref b), some (.ref X), some (.ref M), some (.int (nI (4 * c)))] [] h = am_E P 130 690 [some (.ref b), some (.ref X), some (.ref M), some (.int (nI (4 * c)))] [] h2 ∧ LW P b L xs X M K (c + 1) h2 S2 := by
  obtain ⟨hk, ⟨pd, m0⟩, hz, hs⟩ := id hL
  have l1 : am_iald h b (nI (4 * c) + 1) = some (xs (4 * c + 1)) := by
    have := iald_S hs (k := 4 * c + 1) (by omega) (by omega)
    rw [← nI_add] at this
    exact this
  obtain ⟨h1, e1, z1⟩ := cc_reader hz hk (xs (4 * c + 1))
  have m1 := m0.by z1
  have s1 : h1.2.2 b = ac_S L xs := (z1.fd (Or.inl rfl)).2.trans hs
  have k1 : am_iald h1 b (nI (4 * c) + 1) = some (xs (4 * c + 1)) := by
    have := iald_S s1 (k := 4 * c + 1) (by omega) (by omega)
    rw [← nI_add] at this
    exact this
  obtain ⟨h2, pd', e2, m2⟩ := k_reader P m1 hk (xs (4 * c + 1))
  refine ⟨h2, _, ?_, LW.nx z1 s1 m2 hb hP (hk.reader)⟩
  simp only [q130_c14, hz.cl8, if_true, Option.bind_some, Option.toList, List.nil_append, List.cons_append, eq_self, l1, e1, m1.c, k1, e2]
theorem lc_15 (hL : LW P b L xs X M K c h S) (hb : b < M) (hP : P.1 < M) (hc : c < 64) (hi : 4 * c + 4 ≤ L) (h256 : L ≤ 256) : ∃ h2 S2, am_E P 130 555 [some (.ref b), some (.ref X), some (.ref M), some (.int (nI (4 * c)))] [] h = am_E P 130 690 [some (.ref b), some (.ref X), some (.ref M), some (.int (nI (4 * c)))] [] h2 ∧ LW P b L xs X M K (c + 1) h2 S2 := by
  obtain ⟨hk, ⟨pd, m0⟩, hz, hs⟩ := id hL
  have l1 : am_iald h b (nI (4 * c) + 1) = some (xs (4 * c + 1)) := by
    have := iald_S hs (k := 4 * c + 1) (by omega) (by omega)
    rw [← nI_add] at this
    exact this
  have l2 : am_iald h b (nI (4 * c) + 2) = some (xs (4 * c + 2)) := by
    have := iald_S hs (k := 4 * c + 2) (by omega) (by omega)
    rw [← nI_add] at this
    exact this
  obtain ⟨h1, e1, z1⟩ := cc_read hz hk (by omega) (xs (4 * c + 1)) (xs (4 * c + 2))
  have m1 := m0.by z1
  have s1 : h1.2.2 b = ac_S L xs := (z1.fd (Or.inl rfl)).2.trans hs
  have k1 : am_iald h1 b (nI (4 * c) + 1) = some (xs (4 * c + 1)) := by
    have := iald_S s1 (k := 4 * c + 1) (by omega) (by omega)
    rw [← nI_add] at this
    exact this
  have k2 : am_iald h1 b (nI (4 * c) + 2) = some (xs (4 * c + 2)) := by
    have := iald_S s1 (k := 4 * c + 2) (by omega) (by omega)
    rw [← nI_add] at this
    exact this
  obtain ⟨h2, pd', e2, m2⟩ := k_read P m1 hk (by omega) (xs (4 * c + 1)) (xs (4 * c + 2))
  refine ⟨h2, _, ?_, LW.nx z1 s1 m2 hb hP (hk.read)⟩
  simp only [q130_c15, hz.cl8, if_true, Option.bind_some, Option.toList, List.nil_append, List.cons_append, eq_self, l1, l2, e1, m1.c, k1, k2, e2]
theorem lc_16 (hL : LW P b L xs X M K c h S) (hb : b < M) (hP : P.1 < M) (hc : c < 64) (hi : 4 * c + 4 ≤ L) (h256 : L ≤ 256) : ∃ h2 S2, am_E P 130 588 [some (.ref b), some (.ref X), some (.ref M), some (.int (nI (4 * c)))] [] h = am_E P 130 690 [some (.ref b), some (.ref X), some (.ref M), some (.int (nI (4 * c)))] [] h2 ∧ LW P b L xs X M K (c + 1) h2 S2 := by
  obtain ⟨hk, ⟨pd, m0⟩, hz, hs⟩ := id hL
  have l1 : am_iald h b (nI (4 * c) + 1) = some (xs (4 * c + 1)) := by
    have := iald_S hs (k := 4 * c + 1) (by omega) (by omega)
    rw [← nI_add] at this
    exact this
  have l2 : am_iald h b (nI (4 * c) + 2) = some (xs (4 * c + 2)) := by
    have := iald_S hs (k := 4 * c + 2) (by omega) (by omega)
    rw [← nI_add] at this
    exact this
  have e1 := cc_seen hz hk (xs (4 * c + 1)) (xs (4 * c + 2))
  have m1 := m0
  have e2 := k_seen P m1 hk (by omega) (xs (4 * c + 1)) (xs (4 * c + 2))
  refine ⟨h, S, ?_, hL.sk⟩
  simp only [q130_c16, hz.cl8, if_true, Option.bind_some, Option.toList, List.nil_append, List.cons_append, eq_self, l1, l2, e1, m1.c, e2]
theorem lc_17 (hL : LW P b L xs X M K c h S) (hb : b < M) (hP : P.1 < M) (hc : c < 64) (hi : 4 * c + 4 ≤ L) (h256 : L ≤ 256) : ∃ h2 S2, am_E P 130 621 [some (.ref b), some (.ref X), some (.ref M), some (.int (nI (4 * c)))] [] h = am_E P 130 690 [some (.ref b), some (.ref X), some (.ref M), some (.int (nI (4 * c)))] [] h2 ∧ LW P b L xs X M K (c + 1) h2 S2 := by
  obtain ⟨hk, ⟨pd, m0⟩, hz, hs⟩ := id hL
  have l1 : am_iald h b (nI (4 * c) + 1) = some (xs (4 * c + 1)) := by
    have := iald_S hs (k := 4 * c + 1) (by omega) (by omega)
    rw [← nI_add] at this
    exact this
  have l2 : am_iald h b (nI (4 * c) + 2) = some (xs (4 * c + 2)) := by
    have := iald_S hs (k := 4 * c + 2) (by omega) (by omega)
    rw [← nI_add] at this
    exact this
  have e1 := cc_recQ hz hk (xs (4 * c + 1)) (xs (4 * c + 2))
  have m1 := m0
  have e2 := k_recQ P m1 hk (by omega) (xs (4 * c + 1)) (xs (4 * c + 2))
  refine ⟨h, S, ?_, hL.sk⟩
  simp only [q130_c17, hz.cl8, if_true, Option.bind_some, Option.toList, List.nil_append, List.cons_append, eq_self, l1, l2, e1, m1.c, e2]
theorem lc_18 (hL : LW P b L xs X M K c h S) (hb : b < M) (hP : P.1 < M) (hc : c < 64) (hi : 4 * c + 4 ≤ L) (h256 : L ≤ 256) : ∃ h2 S2, am_E P 130 654 [some (.ref b), some (.ref X), some (.ref M), some (.int (nI (4 * c)))] [] h = am_E P 130 690 [some (.ref b), some (.ref X), some (.ref M), some (.int (nI (4 * c)))] [] h2 ∧ LW P b L xs X M K (c + 1) h2 S2 := by
  obtain ⟨hk, ⟨pd, m0⟩, hz, hs⟩ := id hL
  have l1 : am_iald h b (nI (4 * c) + 1) = some (xs (4 * c + 1)) := by
    have := iald_S hs (k := 4 * c + 1) (by omega) (by omega)
    rw [← nI_add] at this
    exact this
  have e1 := cc_told hz hk (by omega) (xs (4 * c + 1))
  have m1 := m0
  have e2 := k_told P m1 hk (by omega) (xs (4 * c + 1))
  refine ⟨h, S, ?_, hL.sk⟩
  simp only [q130_c18, hz.cl8, if_true, Option.bind_some, Option.toList, List.nil_append, List.cons_append, eq_self, l1, e1, m1.c, e2]
theorem lc_19 (hL : LW P b L xs X M K c h S) (hb : b < M) (hP : P.1 < M) (hc : c < 64) (hi : 4 * c + 4 ≤ L) (h256 : L ≤ 256) : ∃ h2 S2, am_E P 130 677 [some (.ref b), some (.ref X), some (.ref M), some (.int (nI (4 * c)))] [] h = am_E P 130 690 [some (.ref b), some (.ref X), some (.ref M), some (.int (nI (4 * c)))] [] h2 ∧ LW P b L xs X M K (c + 1) h2 S2 := by
  obtain ⟨hk, ⟨pd, m0⟩, hz, hs⟩ := id hL
  obtain ⟨h1, e1, z1⟩ := cc_audit hz hk
  have m1 := m0.by z1
  have s1 : h1.2.2 b = ac_S L xs := (z1.fd (Or.inl rfl)).2.trans hs
  have e2 := k_audit P m1 hk (by omega)
  refine ⟨h1, S, ?_, LW.nx z1 s1 m1 hb hP hk.mono⟩
  simp only [q130_c19, hz.cl8, if_true, Option.bind_some, Option.toList, List.nil_append, List.cons_append, eq_self, e1, m1.c, e2]
end LWs
