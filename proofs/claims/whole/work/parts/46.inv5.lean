/-! A barrier keeps the invariant. -/
def BT (S T : sp) (m : Int32) : Prop :=
  (∀ a b c, a = 0 ∨ a = 2 ∨ a = 3 ∨ a = 6 ∨ a = 7 ∨ a = 8 → T.1 a b c = S.1 a b c) ∧ (∀ b, T.1 4 b 0 ≤ S.1 4 b 0) ∧
  (∀ a b c, a ≠ 0 → a ≠ 4 → a ≠ 13 → T.2 a b c = S.2 a b c) ∧ (∀ b c, b ≠ 2 → b ≠ 3 → b ≠ 4 → T.2 0 b c = S.2 0 b c) ∧ (T.2 0 2 0 = S.2 0 2 0 ∨ T.2 0 2 0 = 1) ∧
  (∀ b q z, q < T.1 5 b 0 → z = 1 ∨ z = 2 → T.1 11 b q = z → (z = 1 ∧ T.2 13 b q = m) ∨ (q < S.1 5 b 0 ∧ S.1 11 b q = z ∧ T.2 13 b q = S.2 13 b q))
theorem BT.refl (S : sp) (m : Int32) : BT S S m := ⟨fun _ _ _ _ => rfl, fun _ => Nat.le_refl _, fun _ _ _ _ _ _ => rfl, fun _ _ _ _ _ => rfl, Or.inl rfl, fun b q z hq _ he => Or.inr ⟨hq, he, rfl⟩⟩
theorem BT.trans {S T U : sp} {m : Int32} (h : BT S T m) (g : BT T U m) : BT S U m := by
  obtain ⟨a1, a2, a3, a4, a5, a6⟩ := h
  obtain ⟨b1, b2, b3, b4, b5, b6⟩ := g
  refine ⟨fun a b c q => (b1 a b c q).trans (a1 a b c q), fun b => Nat.le_trans (b2 b) (a2 b), fun a b c h0 h4 h13 => (b3 a b c h0 h4 h13).trans (a3 a b c h0 h4 h13), fun b c h2 h3 h4 => (b4 b c h2 h3 h4).trans (a4 b c h2 h3 h4), ?_, fun b q z hq hz he => ?_⟩
  · rcases b5 with e | e
    · rcases a5 with f | f
      · exact Or.inl (e.trans f)
      · exact Or.inr (e.trans f)
    · exact Or.inr e
  · rcases b6 b q z hq hz he with e | ⟨e1, e2, e3⟩
    · exact Or.inl e
    · rcases a6 b q z e1 hz e2 with f | ⟨f1, f2, f3⟩
      · exact Or.inl ⟨f.1, e3.trans f.2⟩
      · exact Or.inr ⟨f1, f2, e3.trans f3⟩
theorem BT.act (S : sp) (m : Int32) : BT S (sp_act S).2 m := by
  have st := ST.act S
  refine ⟨fun a b c q => sa_N (by omega), st.2.1, fun a b c h0 _ _ => sa_V h0, fun b c h2 h3 h4 => sa_V0 h2 h3 h4, st.2.2.2.2.2.2.2.2.2.2.2.2, fun b q z hq hz he => ?_⟩
  rw [sa_N (by decide)] at hq he
  exact Or.inr ⟨hq, he, sa_V (by decide)⟩
theorem BT.recF {S : sp} {m : Int32} {k o p n v : Int32} (hf : (sp_rec S k o p n v).1 = false) : BT S (sp_rec S k o p n v).2 m := by
  rw [(sr_F hf).2]; exact BT.act S m
/-- marks of an output's parts that count -/
def hM (S : sp) (m : Int32) : Prop := ∀ b q, q < S.1 5 b 0 → S.1 11 b q = 1 ∨ S.1 11 b q = 2 → S.2 13 b q ≤ m
theorem BT.hM {S T : sp} {m : Int32} (h : BT S T m) (g : hM S m) : hM T m := by
  intro b q hq hz
  have : ∀ z, z = 1 ∨ z = 2 → T.1 11 b q = z → T.2 13 b q ≤ m := by
    intro z hz he
    rcases h.2.2.2.2.2 b q z hq hz he with e | ⟨e1, e2, e3⟩
    · rw [e.2]; exact Int32.le_refl _
    · rw [e3]
      exact g b q e1 (by omega)
  rcases hz with e | e
  · exact this 1 (Or.inl rfl) e
  · exact this 2 (Or.inr rfl) e
theorem sr_dn {S : sp} {k o p n v : Int32} (ht : (sp_rec S k o p n v).1 = true) : (sp_rec S k o p n v).2.2 0 2 0 = S.2 0 2 0 := by
  rw [(sr_T ht).2]
  have h9 := (sr_T ht).1
  unfold sp_act at h9 ⊢
  split
  · rename_i q; rw [if_pos q] at h9; cases h9
  · simp [sp_app, sN_2, sV_2]
theorem pn_gt {S : sp} (h : IN S) {o : Nat} (ho : S.1 0 0 0 ≤ o) : pn S o = 0 := by
  unfold pn
  rw [(h.2.2.2.1 o ho).1]
  rfl
theorem PD_o {S T : sp} {o d e : Nat} (ho : o < 3) (h1 : T.1 1 0 0 = S.1 1 0 0 + d) (hp : pn T o = pn S o + e) (hb : ∀ b, b ≠ o → pn T b = pn S b) : PD T = PD S + d + e := by
  unfold PD
  rw [h1]
  rcases (show o = 0 ∨ o = 1 ∨ o = 2 by omega) with rfl | rfl | rfl
  · have := hb 1 (by decide)
    have := hb 2 (by decide)
    omega
  · have := hb 0 (by decide)
    have := hb 2 (by decide)
    omega
  · have := hb 0 (by decide)
    have := hb 1 (by decide)
    omega
/-- a row of the part that is being written -/
theorem JN.row {S : sp} (h : JN S) {o p k : Nat} {m : Int32} (ho : o < S.1 0 0 0) (hw : sp_wr S o p k) (hk : k < 20) (hkey : 0 ≤ S.2 2 o k ∧ S.2 2 o k < 10) (hpd : PD S < 900) (ht : (sp_row S o p k).1 = true) : JN (sp_row S o p k).2 ∧ sp_wr (sp_row S o p k).2 o p (k + 1) ∧ PD (sp_row S o p k).2 = PD S + 1 ∧ BT S (sp_row S o p k).2 m := by
  obtain ⟨⟨a1, a2, a3, a4, a5, a6, a7, a8, a9⟩, hpd0⟩ := id h
  have hnr : S.1 1 0 0 < 900 := by unfold PD at hpd; omega
  have hgv := h.1.gv ho
  have ho3 : o < 3 := by omega
  obtain ⟨c1, c2⟩ := a1.row ho a3 hw (by omega) hkey ht
  obtain ⟨r1, r2, r3, r4, r5, r6, r7⟩ := sp_row_keep (S := S) (o := o) (p := p) (k := k)
  obtain ⟨ht1, hT⟩ := sp_row_T ht
  obtain ⟨T, hTT⟩ : ∃ T, T = (sp_row S o p k).2 := ⟨_, rfl⟩
  have hS15 : 0 < k → S.1 15 o p = 0 := fun hk0 => by
    rcases hw with ⟨q, -⟩ | ⟨-, q2, q3, -⟩
    · omega
    · exact (a5 o p ho (by omega)).2.2.2.2.1 (Or.inl q3)
  rw [← hTT] at hT c1 c2 r1 r2 r3 r4 r5 r6 r7 ⊢
  have e5 : T.1 5 o 0 = p + 1 := by rw [hT]; simp [sp_pu, sN_1]
  have e10 : T.1 10 o p = k + 1 := by rw [hT]; simp [sp_pu, sN_1]
  have h1 : T.1 1 0 0 = S.1 1 0 0 + 1 := by rw [hT, sp_pu_N (by omega)]; exact sr_nrT ht1
  have eN : ∀ a b c, (a = 9 ∨ a = 10 ∨ a = 11 ∨ a = 14 ∨ a = 15) → ¬ (b = o ∧ c = p) → T.1 a b c = S.1 a b c := fun a b c ha hbc => by
    have q5 : ¬ a = 5 := by omega
    rw [hT]; unfold sp_pu
    split <;> simp [sN_1, sV_1, hbc, q5, sr_N (show a ≠ 1 by omega) (show a ≠ 4 by omega)]
  have e13n : ∀ b c, ¬ (b = o ∧ c = p) → T.2 13 b c = S.2 13 b c := fun b c hbc => by
    rw [hT]; unfold sp_pu
    split <;> simp [sN_2, sV_2, hbc, sr_V]
  have e11 : T.1 11 o p = 0 := by
    rcases c2 with ⟨q, -⟩ | ⟨-, -, q, -⟩
    · omega
    · exact q
  have e15 : T.1 15 o p = 0 := by
    rw [hT]; unfold sp_pu
    split
    · simp [sN_1]
    · rename_i hk0
      simp [sN_1, sr_N, hS15 (by omega)]
  have r4' : ∀ i c, i < S.1 1 0 0 → T.2 4 i c = S.2 4 i c := fun i c hi => by rw [hT, sp_pu_V (by decide)]; exact sr_V4 hi
  have hp5 : (p = S.1 5 o 0 ∧ k = 0) ∨ (p + 1 = S.1 5 o 0 ∧ 0 < k) := by
    rcases hw with ⟨q1, q2⟩ | ⟨q1, q2, -⟩
    · left; omega
    · right; omega
  have r3 := r3 ht
  have hdn : T.2 0 2 0 = S.2 0 2 0 := by rw [hT, sp_pu_V (by decide)]; exact sr_dn ht1
  clear hT hTT ht ht1
  have N0 : T.1 0 0 0 = S.1 0 0 0 := r1 0 0 0 (by omega)
  have hold : ∀ b q, q < T.1 5 b 0 → ¬ (b = o ∧ q = p) → q < S.1 5 b 0 := by
    intro b q hq hbq
    by_cases hbo : b = o
    · subst hbo
      rw [e5] at hq
      omega
    · rw [r2 b 0 hbo] at hq; exact hq
  have g5 : ∀ b, S.1 5 b 0 ≤ T.1 5 b 0 := by
    intro b
    by_cases hbo : b = o
    · subst hbo; rw [e5]; omega
    · rw [r2 b 0 hbo]; exact Nat.le_refl _
  have hsum : ∀ f : Nat → Nat → Nat, (∀ b c, ¬ (b = o ∧ c = p) → f b c = S.1 15 b c) → f o p = 0 → ∀ b, sum_ (f b) (T.1 5 b 0) = sum_ (fun q => S.1 15 b q) (S.1 5 b 0) := by
    intro f hf hf0 b
    by_cases hbo : b = o
    · subst hbo
      rw [e5]
      rcases hp5 with ⟨q1, q2⟩ | ⟨q1, q2⟩
      · show sum_ (f b) p + f b p = _
        rw [hf0, ← q1]
        exact sum_c (fun i hi => hf b i (by omega))
      · rw [q1]
        refine sum_c (fun i hi => ?_)
        by_cases hip : i = p
        · subst hip; rw [hf0, hS15 q2]
        · exact hf b i (by omega)
    · rw [r2 b 0 hbo]
      exact sum_c (fun i hi => hf b i (by omega))
  have f15 : ∀ b c, ¬ (b = o ∧ c = p) → T.1 15 b c = S.1 15 b c := fun b c hbc => eN 15 b c (by omega) hbc
  have nz : ∀ b q, 0 < T.1 15 b q → ¬ (b = o ∧ q = p) := by
    rintro b q hq ⟨rfl, rfl⟩
    omega
  have hpnT : pn T o = pn S o + 0 ∧ ∀ b, b ≠ o → pn T b = pn S b := by
    constructor
    · unfold pn
      rw [e5]
      rcases hp5 with ⟨q1, q2⟩ | ⟨q1, q2⟩
      · show sum_ _ p + (if T.1 11 o p = 1 then 1 else 0) = _
        rw [e11, if_neg (by decide), ← q1]
        rw [sum_c (g := fun p => if S.1 11 o p = 1 then 1 else 0) (fun i hi => by rw [eN 11 o i (by omega) (by omega)])]
      · rw [q1]
        refine sum_c (g := fun p => if S.1 11 o p = 1 then 1 else 0) (fun i hi => ?_)
        by_cases hip : i = p
        · subst hip
          have : S.1 11 o i = 0 := by
            rcases hw with ⟨z1, -⟩ | ⟨-, -, z3, -⟩
            · omega
            · exact z3
          simp only [e11, this]
        · simp only [eN 11 o i (by omega) (show ¬ (o = o ∧ i = p) by omega)]
    · intro b hb
      exact pn_c (r2 b 0 hb) (fun q _ => eN 11 b q (by omega) (by omega))
  have hPD : PD T = PD S + 1 := PD_o (d := 1) (e := 0) ho3 h1 hpnT.1 hpnT.2
  refine ⟨⟨⟨c1, r7 a2, by rw [N0]; exact a3, fun b hb => ?_, fun b q hb hq => ?_, fun b hb => ⟨?_, ?_, ?_⟩, fun b hb => ?_, by rw [r5 0 0 (by decide) (by decide) (by decide)]; exact a8, by rw [r5 0 0 (by decide) (by decide) (by decide)]; exact a9⟩, by omega⟩, c2, hPD, ⟨fun a b c q => r1 a b c q, fun b => Nat.le_of_eq (r3 b 0), r4, r5, Or.inl hdn, ?_⟩⟩
  · rw [N0] at hb
    rw [r2 b 0 (by omega), r1 6 b 0 (by omega)]
    exact a4 b hb
  · rw [N0] at hb
    by_cases hbq : b = o ∧ q = p
    · obtain ⟨rfl, rfl⟩ := hbq
      unfold iP
      rw [e10, e15, e11]
      exact ⟨by omega, by omega, by omega, fun z => by omega, fun _ => rfl, fun z => absurd rfl z, fun z => by omega⟩
    · have := a5 b q hb (hold b q hq hbq)
      unfold iP at this ⊢
      rw [eN 10 b q (by omega) hbq, eN 15 b q (by omega) hbq, eN 11 b q (by omega) hbq, e13n b q hbq, r5 0 0 (by decide) (by decide) (by decide)]
      exact this
  · rw [N0] at hb
    intro q1 q2 hq12 hq2
    by_cases hbq2 : b = o ∧ q2 = p
    · obtain ⟨rfl, rfl⟩ := hbq2
      rw [e11, e15]
      exact ⟨fun _ z => by omega, fun z => by omega⟩
    · have hq2S := hold b q2 hq2 hbq2
      by_cases hbq1 : b = o ∧ q1 = p
      · obtain ⟨rfl, rfl⟩ := hbq1
        omega
      · rw [eN 11 b q1 (by omega) hbq1, eN 11 b q2 (by omega) hbq2, eN 15 b q2 (by omega) hbq2, e13n b q1 hbq1, e13n b q2 hbq2]
        exact (a6 b hb).1 q1 q2 hq12 hq2S
  · rw [N0] at hb
    intro hz
    rw [r4 1 b 0 (by decide) (by decide) (by decide)] at hz
    obtain ⟨l1, l2, l3, l4, l5⟩ := (a6 b hb).2.1 hz
    have n6 : T.1 6 b 0 = S.1 6 b 0 := r1 6 b 0 (by omega)
    have v6 : ∀ i, T.2 6 b i = S.2 6 b i := fun i => r4 6 b i (by decide) (by decide) (by decide)
    have v8 : ∀ i, T.2 8 b i = S.2 8 b i := fun i => r4 8 b i (by decide) (by decide) (by decide)
    have v9 : ∀ i, T.2 9 b i = S.2 9 b i := fun i => r4 9 b i (by decide) (by decide) (by decide)
    refine ⟨fun q hq j hj => ?_, fun i hi => ?_, fun q q' hqq hq' z0 z0' => ?_, ?_, fun i hi => ?_⟩
    · have hbq := nz b q (by omega)
      rw [f15 b q hbq] at hj
      rw [eN 14 b q (by omega) hbq, n6, v8, v9]
      exact l1 q (hold b q hq hbq) j hj
    · rw [n6] at hi
      obtain ⟨q, q1, q2, q3⟩ := l2 i hi
      have hbq : ¬ (b = o ∧ q = p) := by
        rintro ⟨rfl, rfl⟩
        rcases hp5 with ⟨w1, w2⟩ | ⟨w1, w2⟩
        · omega
        · rw [hS15 w2] at q3; omega
      exact ⟨q, Nat.lt_of_lt_of_le q1 (g5 b), by rw [eN 14 b q (by omega) hbq]; exact q2, by rw [eN 14 b q (by omega) hbq, f15 b q hbq]; exact q3⟩
    · have hb1 := nz b q z0
      have hb2 := nz b q' z0'
      rw [f15 b q hb1] at z0 ⊢
      rw [f15 b q' hb2] at z0'
      rw [eN 14 b q (by omega) hb1, eN 14 b q' (by omega) hb2]
      exact l3 q q' hqq (hold b q' hq' hb2) z0 z0'
    · rw [n6, l4]
      exact (hsum (fun b c => T.1 15 b c) f15 e15 b).symm
    · rw [n6] at hi
      rw [v6]
      exact l5 i hi
  · rw [N0] at hb
    intro hz
    rw [r4 1 b 0 (by decide) (by decide) (by decide)] at hz
    obtain ⟨t1, t2, t3⟩ := (a6 b hb).2.2 hz
    refine ⟨by rw [r1 6 b 0 (by omega)]; exact t1, fun y hy => ?_, fun q hq j hj => ?_⟩
    · rw [r4 10 b y (by decide) (by decide) (by decide)]
      rcases t2 y hy with e | ⟨q, q1, q2, q3⟩
      · exact Or.inl e
      · have hbq : ¬ (b = o ∧ q = p) := by
          rintro ⟨rfl, rfl⟩
          rcases hp5 with ⟨w1, w2⟩ | ⟨w1, w2⟩
          · omega
          · rw [hS15 w2] at q3; omega
        exact Or.inr ⟨q, Nat.lt_of_lt_of_le q1 (g5 b), q2, by rw [f15 b q hbq]; exact q3⟩
    · have hbq := nz b q (by omega)
      have hqS := hold b q hq hbq
      rw [f15 b q hbq] at hj
      have hPq := a5 b q hb hqS
      have hlt : S.1 9 b q + j < S.1 1 0 0 := by
        have := (a1.1 b q (by omega) hqS).2.2.2.2.1
        have := hPq.2.2.1
        omega
      rw [eN 9 b q (by omega) hbq, r4' _ 3 hlt, r4 10 _ _ (by decide) (by decide) (by decide)]
      obtain ⟨q', q1, q2, q3⟩ := t3 q hqS j hj
      exact ⟨q', Nat.lt_of_lt_of_le q1 (g5 b), q2, q3⟩
  · rw [N0] at hb
    rw [r4 1 b 2 (by decide) (by decide) (by decide)]
    exact a7 b hb
  · intro b q z hq hz he
    right
    have hbq : ¬ (b = o ∧ q = p) := by
      rintro ⟨rfl, rfl⟩
      omega
    exact ⟨hold b q hq hbq, by rw [← eN 11 b q (by omega) hbq]; exact he, e13n b q hbq⟩
