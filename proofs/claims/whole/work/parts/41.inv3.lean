/-! Parts are settled: shown, gone. -/
def pn (S : sp) (o : Nat) : Nat := sum_ (fun p => if S.1 11 o p = 1 then 1 else 0) (S.1 5 o 0)
/-- records, and those that parts that wait will have -/
def PD (S : sp) : Nat := S.1 1 0 0 + (pn S 0 + pn S 1 + pn S 2)
def JN (S : sp) : Prop := IN S ∧ PD S < 1900
theorem JN.nr {S : sp} (h : JN S) : S.1 1 0 0 < 1900 := by
  have := h.2
  unfold PD at this
  omega
theorem pn_c {S T : sp} {o : Nat} (h5 : T.1 5 o 0 = S.1 5 o 0) (h : ∀ p, p < S.1 5 o 0 → T.1 11 o p = S.1 11 o p) : pn T o = pn S o := by
  unfold pn
  rw [h5]
  exact sum_c (fun p hp => by rw [h p hp])
theorem PD_same {S T : sp} (h1 : T.1 1 0 0 = S.1 1 0 0) (h5 : ∀ o, T.1 5 o 0 = S.1 5 o 0) (h11 : ∀ o p, T.1 11 o p = S.1 11 o p) : PD T = PD S := by
  unfold PD
  rw [h1, pn_c (h5 0) (fun p _ => h11 0 p), pn_c (h5 1) (fun p _ => h11 1 p), pn_c (h5 2) (fun p _ => h11 2 p)]
theorem JN.act {S : sp} (h : JN S) : JN (sp_act S).2 := ⟨h.1.act, by rw [PD_same (sa_N (by decide)) (fun o => sa_N (by decide)) (fun o p => sa_N (by decide))]; exact h.2⟩
theorem pn_down {S T : sp} {o p : Nat} (hp : p < S.1 5 o 0) (h5 : T.1 5 o 0 = S.1 5 o 0) (h1 : S.1 11 o p = 1) (h2 : T.1 11 o p ≠ 1) (h : ∀ q, q ≠ p → T.1 11 o q = S.1 11 o q) : pn T o + 1 = pn S o := by
  unfold pn
  rw [h5]
  symm
  refine sum_up hp (fun i _ hi => ?_) ?_
  · simp only [h i hi]
  · simp only [h1, if_true, if_neg h2]
theorem JN.settle {S : sp} (h : JN S) {o p z : Nat} {k : Int32} (hkz : (k = 3 ∧ z = 2 ∧ S.1 15 o p = S.1 10 o p) ∨ (k = 4 ∧ z = 3 ∧ S.1 15 o p = 0)) (ho : o < S.1 0 0 0) (hp : p < S.1 5 o 0) (hs : S.1 11 o p = 1) (ht : (sp_rec S k (nI o) (nI p) (-6) (-6)).1 = true) : JN (sN (sp_rec S k (nI o) (nI p) (-6) (-6)).2 11 o p z) := by
  obtain ⟨⟨a1, a2, a3, a4, a5, a6, a7, a8, a9⟩, hpd⟩ := h
  have hco := a1.settle (o := o) (p := p) (z := z) (k := k) (by rcases hkz with ⟨q1, q2, -⟩ | ⟨q1, q2, -⟩; exact Or.inl ⟨q1, q2⟩; exact Or.inr ⟨q1, q2⟩) ho a3 hp (by omega) ht
  obtain ⟨T, hT⟩ : ∃ T, T = sN (sp_rec S k (nI o) (nI p) (-6) (-6)).2 11 o p z := ⟨_, rfl⟩
  have hN : ∀ a b c, a ≠ 1 → a ≠ 4 → a ≠ 11 → T.1 a b c = S.1 a b c := fun a b c e1 e2 e3 => by rw [hT, sN_1, if_neg (by omega)]; exact sr_N e1 e2
  have hV : ∀ a b c, a ≠ 0 → a ≠ 4 → T.2 a b c = S.2 a b c := fun a b c e1 e2 => by rw [hT]; exact sr_V e1 e2
  have e11 : T.1 11 o p = z := by rw [hT]; simp [sN_1]
  have e11n : ∀ a b, ¬ (a = o ∧ b = p) → T.1 11 a b = S.1 11 a b := fun a b hab => by rw [hT, sN_1, if_neg (by omega)]; exact sr_N (by decide) (by decide)
  have hm : T.2 0 0 0 = S.2 0 0 0 := by rw [hT]; exact sr_V0 (by decide) (by decide) (by decide)
  have hr4 : ∀ i c, i < S.1 1 0 0 → T.2 4 i c = S.2 4 i c := fun i c hi => by rw [hT]; exact sr_V4 hi
  have h1 : T.1 1 0 0 = S.1 1 0 0 + 1 := by rw [hT, sN_1, if_neg (by omega)]; exact sr_nrT ht
  have hlp : sp_LP T := by
    have := sr_LP (k := k) (o := nI o) (p := nI p) (n := -6) (v := -6) a2
    rw [hT]
    exact this
  have hz : z ≠ 1 ∧ z ≠ 0 := by omega
  rw [← hT] at hco ⊢
  clear hT
  have N0 : T.1 0 0 0 = S.1 0 0 0 := hN 0 0 0 (by decide) (by decide) (by decide)
  have N5 : ∀ b, T.1 5 b 0 = S.1 5 b 0 := fun b => hN 5 b 0 (by decide) (by decide) (by decide)
  refine ⟨⟨hco, hlp, by rw [N0]; exact a3, fun b hb => ?_, fun b q hb hq => ?_, fun b hb => ⟨?_, ?_, ?_⟩, fun b hb => ?_, by rw [hm]; exact a8, by rw [hm]; exact a9⟩, ?_⟩
  · rw [N0] at hb
    rw [N5, hN 6 b 0 (by decide) (by decide) (by decide)]
    exact a4 b hb
  · rw [N0] at hb
    rw [N5] at hq
    have hPq := a5 b q hb hq
    unfold iP at hPq ⊢
    rw [hN 10 b q (by decide) (by decide) (by decide), hN 15 b q (by decide) (by decide) (by decide), hV 13 b q (by decide) (by decide), hm]
    by_cases hbq : b = o ∧ q = p
    · obtain ⟨rfl, rfl⟩ := hbq
      rw [e11]
      rw [hs] at hPq
      refine ⟨hPq.1, hPq.2.1, hPq.2.2.1, fun _ => by omega, fun _ => by omega, fun _ => hPq.2.2.2.2.2.1 (by decide), hPq.2.2.2.2.2.2⟩
    · rw [e11n b q hbq]
      exact hPq
  · rw [N0] at hb
    intro q1 q2 hq12 hq2
    rw [N5] at hq2
    have := (a6 b hb).1 q1 q2 hq12 hq2
    rw [hN 15 b q2 (by decide) (by decide) (by decide), hV 13 b q1 (by decide) (by decide), hV 13 b q2 (by decide) (by decide)]
    have cls : ∀ q, (T.1 11 b q = 1 ∨ T.1 11 b q = 2) → (S.1 11 b q = 1 ∨ S.1 11 b q = 2) := by
      intro q hq
      by_cases hbq : b = o ∧ q = p
      · obtain ⟨rfl, rfl⟩ := hbq
        exact Or.inl hs
      · rw [e11n b q hbq] at hq; exact hq
    refine ⟨fun c1 c2 => this.1 (cls q1 c1) (cls q2 c2), fun hlc => ?_⟩
    by_cases hbq : b = o ∧ q1 = p
    · obtain ⟨rfl, rfl⟩ := hbq
      rw [e11]; exact hz.1
    · rw [e11n b q1 hbq]; exact this.2 hlc
  · rw [N0] at hb
    intro hzz
    rw [hV 1 b 0 (by decide) (by decide)] at hzz
    have := (a6 b hb).2.1 hzz
    unfold iL at this ⊢
    have f1 : ∀ b c, T.1 5 b c = S.1 5 b c := fun b c => hN 5 b c (by decide) (by decide) (by decide)
    have f2 : ∀ b c, T.1 6 b c = S.1 6 b c := fun b c => hN 6 b c (by decide) (by decide) (by decide)
    have f3 : ∀ b c, T.1 14 b c = S.1 14 b c := fun b c => hN 14 b c (by decide) (by decide) (by decide)
    have f4 : ∀ b c, T.1 15 b c = S.1 15 b c := fun b c => hN 15 b c (by decide) (by decide) (by decide)
    have f5 : ∀ b c, T.2 6 b c = S.2 6 b c := fun b c => hV 6 b c (by decide) (by decide)
    have f6 : ∀ b c, T.2 8 b c = S.2 8 b c := fun b c => hV 8 b c (by decide) (by decide)
    have f7 : ∀ b c, T.2 9 b c = S.2 9 b c := fun b c => hV 9 b c (by decide) (by decide)
    simp only [f1, f2, f3, f4, f5, f6, f7]
    exact this
  · rw [N0] at hb
    intro hzz
    rw [hV 1 b 0 (by decide) (by decide)] at hzz
    obtain ⟨t1, t2, t3⟩ := (a6 b hb).2.2 hzz
    refine ⟨by rw [hN 6 b 0 (by decide) (by decide) (by decide)]; exact t1, fun y hy => ?_, fun q hq j hj => ?_⟩
    · rw [hV 10 b y (by decide) (by decide), N5]
      rcases t2 y hy with e | ⟨q, e1, e2, e3⟩
      · exact Or.inl e
      · exact Or.inr ⟨q, e1, e2, by rw [hN 15 b q (by decide) (by decide) (by decide)]; exact e3⟩
    · rw [N5] at hq ⊢
      rw [hN 15 b q (by decide) (by decide) (by decide)] at hj
      have hPq := a5 b q hb hq
      have hlt : S.1 9 b q + j < S.1 1 0 0 := by
        have := (a1.1 b q (by omega) hq).2.2.2.2.1
        have := hPq.2.2.1
        omega
      rw [hN 9 b q (by decide) (by decide) (by decide), hr4 _ 3 hlt, hV 10 _ _ (by decide) (by decide)]
      exact t3 q hq j hj
  · rw [N0] at hb
    rw [hV 1 b 2 (by decide) (by decide)]
    exact a7 b hb
  · have hdn : pn T o + 1 = pn S o := pn_down hp (N5 o) hs (by rw [e11]; exact hz.1) (fun q hq => e11n o q (by omega))
    have hot : ∀ b, b ≠ o → pn T b = pn S b := fun b hb => pn_c (N5 b) (fun q _ => e11n b q (by omega))
    have ho3 : o < 3 := by omega
    unfold PD at hpd ⊢
    rw [h1]
    rcases (show o = 0 ∨ o = 1 ∨ o = 2 by omega) with rfl | rfl | rfl
    · have := hot 1 (by decide)
      have := hot 2 (by decide)
      omega
    · have := hot 0 (by decide)
      have := hot 2 (by decide)
      omega
    · have := hot 0 (by decide)
      have := hot 1 (by decide)
      omega
theorem JN.recF {S : sp} (h : JN S) {k o p n v : Int32} (hf : (sp_rec S k o p n v).1 = false) : JN (sp_rec S k o p n v).2 := by
  rw [(sr_F hf).2]
  exact h.act
/-- rows of a part come -/
theorem JN.showR {o p : Nat} : ∀ (c pl w : Nat) (S : sp), JN S → o < S.1 0 0 0 → p < S.1 5 o 0 → S.1 11 o p = 1 → S.2 13 o p ≤ S.2 0 0 0 → (∀ q, q < p → S.1 11 o q ≠ 1) → pl + c = S.1 10 o p → pl ≤ S.1 15 o p →
    JN (sp_showR o p c pl w S).2 ∧ (∀ a b d, a ≠ 4 → a ≠ 6 → a ≠ 14 → a ≠ 15 → (sp_showR o p c pl w S).2.1 a b d = S.1 a b d) ∧ (∀ a b d, (a ≠ 0 ∧ a < 6) ∨ a = 13 → (sp_showR o p c pl w S).2.2 a b d = S.2 a b d) ∧ (∀ b d, b ≠ 2 → b ≠ 3 → b ≠ 4 → (sp_showR o p c pl w S).2.2 0 b d = S.2 0 b d) ∧ ((sp_showR o p c pl w S).1 ≠ none → (sp_showR o p c pl w S).2.1 15 o p = S.1 10 o p) := by
  intro c
  induction c with
  | zero =>
    intro pl w S h ho hp hs hpm hprev hpl hlc
    refine ⟨h, fun _ _ _ _ _ _ _ => rfl, fun _ _ _ _ => rfl, fun _ _ _ _ _ => rfl, fun _ => ?_⟩
    have := (h.1.2.2.2.2.1 o p ho hp).2.2.1
    show S.1 15 o p = _
    omega
  | succ c ih =>
    intro pl w S h ho hp hs hpm hprev hpl hlc
    unfold sp_showR
    split
    · have ha := h.act
      have e9 : (sp_act S).2.1 9 o p = S.1 9 o p := sa_N (by decide)
      have hn := ha.nr
      obtain ⟨k1, k2, k3, k4, k5⟩ := sp_come_keep (S := (sp_act S).2) (o := o) (p := p) (pl := pl) (r := S.1 9 o p + pl)
      have hc := ha.1.come (o := o) (p := p) (pl := pl) (by omega) (by rw [sa_N (by decide)]; exact ho) (by rw [sa_N (by decide)]; exact hp) (by rw [sa_N (by decide)]; exact hs) (by rw [sa_V (by decide), sa_V0 (by decide) (by decide) (by decide)]; exact hpm) (fun q hq => by rw [sa_N (by decide)]; exact hprev q hq) (by rw [sa_N (by decide)]; exact hlc) (by rw [sa_N (by decide)]; omega)
      rw [e9] at hc
      have hJ : JN (sp_come (sp_act S).2 o p pl (S.1 9 o p + pl)).2 := ⟨hc.1, by
        rw [PD_same (k1 1 0 0 (by decide) (by decide) (by decide)) (fun b => k1 5 b 0 (by decide) (by decide) (by decide)) (fun b q => k1 11 b q (by decide) (by decide) (by decide))]
        exact ha.2⟩
      have N : ∀ a b d, a ≠ 4 → a ≠ 6 → a ≠ 14 → a ≠ 15 → (sp_come (sp_act S).2 o p pl (S.1 9 o p + pl)).2.1 a b d = S.1 a b d := fun a b d h4 h6 h14 h15 => by rw [k1 a b d h6 h14 h15]; exact sa_N h4
      have V : ∀ a b d, (a ≠ 0 ∧ a < 6) ∨ a = 13 → (sp_come (sp_act S).2 o p pl (S.1 9 o p + pl)).2.2 a b d = S.2 a b d := fun a b d hh => by rw [k3 a b d (by omega)]; exact sa_V (by omega)
      have V0 : ∀ b d, b ≠ 2 → b ≠ 3 → b ≠ 4 → (sp_come (sp_act S).2 o p pl (S.1 9 o p + pl)).2.2 0 b d = S.2 0 b d := fun b d h2 h3 h4 => by rw [k3 0 b d (by omega)]; exact sa_V0 h2 h3 h4
      obtain ⟨i1, i2, i3, i4, i5⟩ := ih (pl + 1) (w + (sp_come (sp_act S).2 o p pl (S.1 9 o p + pl)).1) _ hJ (by rw [N 0 0 0 (by decide) (by decide) (by decide) (by decide)]; exact ho) (by rw [N 5 o 0 (by decide) (by decide) (by decide) (by decide)]; exact hp) (by rw [N 11 o p (by decide) (by decide) (by decide) (by decide)]; exact hs) (by rw [V 13 o p (by omega), V0 0 0 (by decide) (by decide) (by decide)]; exact hpm) (fun q hq => by rw [N 11 o q (by decide) (by decide) (by decide) (by decide)]; exact hprev q hq) (by rw [N 10 o p (by decide) (by decide) (by decide) (by decide)]; omega) hc.2
      refine ⟨i1, fun a b d h4 h6 h14 h15 => (i2 a b d h4 h6 h14 h15).trans (N a b d h4 h6 h14 h15), fun a b d hh => (i3 a b d hh).trans (V a b d hh), fun b d h2 h3 h4 => (i4 b d h2 h3 h4).trans (V0 b d h2 h3 h4), fun hne => ?_⟩
      rw [i5 hne, N 10 o p (by decide) (by decide) (by decide) (by decide)]
    · refine ⟨h.act, fun a b d h4 _ _ _ => sa_N h4, fun a b d hh => sa_V (by omega), fun b d h2 h3 h4 => sa_V0 h2 h3 h4, fun hne => absurd rfl hne⟩
