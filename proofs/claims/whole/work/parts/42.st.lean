/-! What showing and giving up leave alone. -/
def ST (S T : sp) : Prop :=
  (∀ a b c, a = 0 ∨ a = 2 ∨ a = 3 ∨ a = 5 ∨ a = 7 ∨ a = 8 ∨ a = 9 ∨ a = 10 → T.1 a b c = S.1 a b c) ∧
  (∀ b, T.1 4 b 0 ≤ S.1 4 b 0) ∧ (∀ b, S.1 6 b 0 ≤ T.1 6 b 0) ∧ (∀ b c, S.1 11 b c ≠ 1 → T.1 11 b c = S.1 11 b c) ∧
  S.1 1 0 0 ≤ T.1 1 0 0 ∧ PD T ≤ PD S ∧
  (∀ a b i, a = 6 ∨ a = 7 ∨ a = 8 ∨ a = 9 → i < S.1 6 b 0 → T.2 a b i = S.2 a b i) ∧
  (∀ a b c, a = 2 ∨ a = 3 ∨ a = 5 ∨ a = 13 → T.2 a b c = S.2 a b c) ∧
  (∀ i c, i < S.1 1 0 0 → T.2 4 i c = S.2 4 i c) ∧ (∀ b, T.2 1 b 0 = S.2 1 b 0) ∧
  (∀ b, 0 ≤ S.2 1 b 2 → 0 ≤ T.2 1 b 2 ∧ T.2 1 b 2 ≤ S.2 1 b 2) ∧
  (∀ b c, b ≠ 2 → b ≠ 3 → b ≠ 4 → T.2 0 b c = S.2 0 b c) ∧ (T.2 0 2 0 = S.2 0 2 0 ∨ T.2 0 2 0 = 1)
theorem ST.refl (S : sp) : ST S S := ⟨fun _ _ _ _ => rfl, fun _ => Nat.le_refl _, fun _ => Nat.le_refl _, fun _ _ _ => rfl, Nat.le_refl _, Nat.le_refl _, fun _ _ _ _ _ => rfl, fun _ _ _ _ => rfl, fun _ _ _ => rfl, fun _ => rfl, fun _ h => ⟨h, Int32.le_refl _⟩, fun _ _ _ _ _ => rfl, Or.inl rfl⟩
theorem ST.trans {S T U : sp} (h : ST S T) (g : ST T U) : ST S U := by
  obtain ⟨a1, a2, a3, a4, a5, a6, a7, a8, a9, a10, a11, a12, a13⟩ := h
  obtain ⟨b1, b2, b3, b4, b5, b6, b7, b8, b9, b10, b11, b12, b13⟩ := g
  refine ⟨fun a b c q => (b1 a b c q).trans (a1 a b c q), fun b => Nat.le_trans (b2 b) (a2 b), fun b => Nat.le_trans (a3 b) (b3 b), fun b c q => ?_, Nat.le_trans a5 b5, Nat.le_trans b6 a6, fun a b i q hi => ?_, fun a b c q => (b8 a b c q).trans (a8 a b c q), fun i c hi => ?_, fun b => (b10 b).trans (a10 b), fun b q => ?_, fun b c h2 h3 h4 => (b12 b c h2 h3 h4).trans (a12 b c h2 h3 h4), ?_⟩
  · have := a4 b c q
    rw [b4 b c (by rw [this]; exact q), this]
  · rw [b7 a b i q (Nat.lt_of_lt_of_le hi (a3 b)), a7 a b i q hi]
  · rw [b9 i c (by omega), a9 i c hi]
  · obtain ⟨c1, c2⟩ := a11 b q
    obtain ⟨d1, d2⟩ := b11 b c1
    exact ⟨d1, Int32.le_trans d2 c2⟩
  · rcases b13 with e | e
    · rcases a13 with f | f
      · exact Or.inl (e.trans f)
      · exact Or.inr (e.trans f)
    · exact Or.inr e
theorem ST.act (S : sp) : ST S (sp_act S).2 := by
  refine ⟨fun a b c q => sa_N (by omega), fun b => ?_, fun b => Nat.le_of_eq (sa_N (by decide)).symm, fun b c _ => sa_N (by decide), Nat.le_of_eq (sa_N (by decide)).symm, Nat.le_of_eq (PD_same (sa_N (by decide)) (fun o => sa_N (by decide)) (fun o p => sa_N (by decide))), fun a b i q _ => sa_V (by omega), fun a b c q => sa_V (by omega), fun i c _ => sa_V (by decide), fun b => sa_V (by decide), fun b q => by rw [sa_V (by decide)]; exact ⟨q, Int32.le_refl _⟩, fun b c h2 h3 h4 => sa_V0 h2 h3 h4, ?_⟩
  · unfold sp_act
    split
    · simp [sE_1]
    · simp [sV_1]
  · unfold sp_act
    split
    · right; simp [sE_2, sV_2]
    · left; simp [sV_2]
theorem ST.recF {S : sp} {k o p n v : Int32} (hf : (sp_rec S k o p n v).1 = false) : ST S (sp_rec S k o p n v).2 := by
  rw [(sr_F hf).2]; exact ST.act S
theorem sp_come_V {S : sp} {o p pl r a b i : Nat} (ha : a = 6 ∨ a = 7 ∨ a = 8 ∨ a = 9) (hi : i < S.1 6 b 0) : (sp_come S o p pl r).2.2 a b i = S.2 a b i := by
  by_cases hb : b = o
  · subst hb
    have hgV : ∀ (A B : sp) (a b' c : Nat), (sp_gh A B b p pl).2 a b' c = B.2 a b' c := by
      intro A B a b' c
      unfold sp_gh
      split <;> rfl
    have hne : ¬ i = S.1 6 b 0 := by omega
    have q10 : ¬ a = 10 := by omega
    have q11 : ¬ a = 11 := by omega
    have q12 : ¬ a = 12 := by omega
    unfold sp_come
    split
    · show (sp_gh S (sp_line S b p pl r).2 b p pl).2 a b i = _
      rw [hgV]
      unfold sp_line
      split
      · rfl
      · simp [sN_2, sV_2, hne]
    · show (sp_gh S (sp_last S b p pl r).2 b p pl).2 a b i = _
      rw [hgV]
      unfold sp_last
      split
      · rfl
      · simp [sV_2, q10, q11, q12]
  · exact (sp_come_oth hb).2
theorem ST.come {S : sp} {o p pl r : Nat} : ST S (sp_come S o p pl r).2 := by
  obtain ⟨k1, k2, k3, k4, k5⟩ := sp_come_keep (S := S) (o := o) (p := p) (pl := pl) (r := r)
  refine ⟨fun a b c q => k1 a b c (by omega) (by omega) (by omega), fun b => Nat.le_of_eq (k1 4 b 0 (by decide) (by decide) (by decide)), fun b => (k2 b).2, fun b c _ => k1 11 b c (by decide) (by decide) (by decide), Nat.le_of_eq (k1 1 0 0 (by decide) (by decide) (by decide)).symm, Nat.le_of_eq (PD_same (k1 1 0 0 (by decide) (by decide) (by decide)) (fun b => k1 5 b 0 (by decide) (by decide) (by decide)) (fun b q => k1 11 b q (by decide) (by decide) (by decide))), fun a b i q hi => sp_come_V q hi, fun a b c q => k3 a b c (by omega), fun i c _ => k3 4 i c (by omega), fun b => k3 1 b 0 (by omega), fun b q => by rw [k3 1 b 2 (by omega)]; exact ⟨q, Int32.le_refl _⟩, fun b c _ _ _ => k3 0 b c (by omega), Or.inl (k3 0 2 0 (by omega))⟩
theorem ST.settle {S : sp} {o p z : Nat} {k : Int32} (ho : o < 3) (hp : p < S.1 5 o 0) (hs : S.1 11 o p = 1) (hz : z ≠ 1) (ht : (sp_rec S k (nI o) (nI p) (-6) (-6)).1 = true) : ST S (sN (sp_rec S k (nI o) (nI p) (-6) (-6)).2 11 o p z) := by
  obtain ⟨T, hT⟩ : ∃ T, T = sN (sp_rec S k (nI o) (nI p) (-6) (-6)).2 11 o p z := ⟨_, rfl⟩
  have hN : ∀ a b c, a ≠ 1 → a ≠ 11 → T.1 a b c = S.1 a b c := fun a b c e1 e3 => by rw [hT, sN_1, if_neg (by omega)]; exact sr_N4 e1 ht
  have hV : ∀ a b c, a ≠ 0 → a ≠ 4 → T.2 a b c = S.2 a b c := fun a b c e1 e2 => by rw [hT]; exact sr_V e1 e2
  have e11 : T.1 11 o p = z := by rw [hT]; simp [sN_1]
  have e11n : ∀ a b, ¬ (a = o ∧ b = p) → T.1 11 a b = S.1 11 a b := fun a b hab => by rw [hT, sN_1, if_neg (by omega)]; exact sr_N (by decide) (by decide)
  have hm : ∀ b c, b ≠ 2 → b ≠ 3 → b ≠ 4 → T.2 0 b c = S.2 0 b c := fun b c h2 h3 h4 => by rw [hT]; exact sr_V0 h2 h3 h4
  have hr4 : ∀ i c, i < S.1 1 0 0 → T.2 4 i c = S.2 4 i c := fun i c hi => by rw [hT]; exact sr_V4 hi
  have h1 : T.1 1 0 0 = S.1 1 0 0 + 1 := by rw [hT, sN_1, if_neg (by omega)]; exact sr_nrT ht
  have hdn : T.2 0 2 0 = S.2 0 2 0 := by
    rw [hT, sN_2, (sr_T ht).2]
    have h9 := (sr_T ht).1
    unfold sp_act at h9 ⊢
    split
    · rename_i q; rw [if_pos q] at h9; cases h9
    · simp [sp_app, sN_2, sV_2]
  rw [← hT]
  clear hT
  have hdn2 : pn T o + 1 = pn S o := pn_down hp (hN 5 o 0 (by decide) (by decide)) hs (by rw [e11]; exact hz) (fun q hq => e11n o q (by omega))
  have hot : ∀ b, b ≠ o → pn T b = pn S b := fun b hb => pn_c (hN 5 b 0 (by decide) (by decide)) (fun q _ => e11n b q (by omega))
  refine ⟨fun a b c q => hN a b c (by omega) (by omega), fun b => Nat.le_of_eq (hN 4 b 0 (by decide) (by decide)), fun b => Nat.le_of_eq (hN 6 b 0 (by decide) (by decide)).symm, fun b c q => e11n b c (by rintro ⟨rfl, rfl⟩; exact q hs), by omega, ?_, fun a b i q _ => hV a b i (by omega) (by omega), fun a b c q => hV a b c (by omega) (by omega), hr4, fun b => hV 1 b 0 (by decide) (by decide), fun b q => by rw [hV 1 b 2 (by decide) (by decide)]; exact ⟨q, Int32.le_refl _⟩, hm, Or.inl hdn⟩
  unfold PD
  rw [h1]
  rcases (show o = 0 ∨ o = 1 ∨ o = 2 by omega) with rfl | rfl | rfl
  · have := hot 1 (by decide)
    have := hot 2 (by decide)
    omega
  · have := hot 0 (by decide)
    have := hot 2 (by decide)
    omega
  · have := hot 0 (by decide)
    have := hot 1 (by decide)
    omega
theorem ST.showR {o p : Nat} : ∀ (c pl w : Nat) (S : sp), ST S (sp_showR o p c pl w S).2 := by
  intro c
  induction c with
  | zero => intro pl w S; exact ST.refl S
  | succ c ih =>
    intro pl w S
    unfold sp_showR
    split
    · exact (ST.act S).trans (ST.come.trans (ih _ _ _))
    · exact ST.act S
/-- a part is shown -/
theorem JN.showP {S : sp} {o p : Nat} (h : JN S) (ho : o < S.1 0 0 0) (hp : p < S.1 5 o 0) (hs : S.1 11 o p = 1) (hpm : S.2 13 o p ≤ S.2 0 0 0) (hprev : ∀ q, q < p → S.1 11 o q ≠ 1) : JN (sp_showP S o p).2 ∧ ST S (sp_showP S o p).2 ∧ ((sp_showP S o p).1 ≠ none → (sp_showP S o p).2.1 11 o p = 2 ∧ (sp_showP S o p).2.1 1 0 0 = S.1 1 0 0 + 1) ∧ (∀ b c, ¬ (b = o ∧ c = p) → (sp_showP S o p).2.1 11 b c = S.1 11 b c) ∧ ((sp_showP S o p).1 = none → (sp_showP S o p).2.1 1 0 0 = S.1 1 0 0) := by
  obtain ⟨j1, j2, j3, j4, j5⟩ := JN.showR (o := o) (p := p) (S.1 10 o p) 0 0 S h ho hp hs hpm hprev (Nat.zero_add _) (Nat.zero_le _)
  have st := ST.showR (o := o) (p := p) (S.1 10 o p) 0 0 S
  unfold sp_showP
  cases hR : sp_showR o p (S.1 10 o p) 0 0 S with
  | mk a T =>
    rw [hR] at j1 j2 j3 j4 j5 st
    simp only at j1 j2 j3 j4 j5 st
    cases a with
    | none => exact ⟨j1, st, fun q => absurd rfl q, fun b c _ => j2 11 b c (by decide) (by decide) (by decide) (by decide), fun _ => j2 1 0 0 (by decide) (by decide) (by decide) (by decide)⟩
    | some w =>
      have T0 : T.1 0 0 0 = S.1 0 0 0 := j2 0 0 0 (by decide) (by decide) (by decide) (by decide)
      have T5 : T.1 5 o 0 = S.1 5 o 0 := j2 5 o 0 (by decide) (by decide) (by decide) (by decide)
      have T11 : ∀ b c, T.1 11 b c = S.1 11 b c := fun b c => j2 11 b c (by decide) (by decide) (by decide) (by decide)
      have T1 : T.1 1 0 0 = S.1 1 0 0 := j2 1 0 0 (by decide) (by decide) (by decide) (by decide)
      have h3 := h.1.2.2.1
      simp only
      split
      · rename_i ht
        refine ⟨j1.settle (Or.inl ⟨rfl, rfl, ?_⟩) (by rw [T0]; exact ho) (by rw [T5]; exact hp) (by rw [T11]; exact hs) ht, st.trans (ST.settle (by omega) (by rw [T5]; exact hp) (by rw [T11]; exact hs) (by decide) ht), fun _ => ⟨by simp [sN_1], ?_⟩, fun b c hbc => ?_, fun q => by cases q⟩
        · rw [j5 (by simp), j2 10 o p (by decide) (by decide) (by decide) (by decide)]
        · show (sN (sp_rec T 3 (nI o) (nI p) (-6) (-6)).2 11 o p 2).1 1 0 0 = _
          rw [sN_1, if_neg (by omega), sr_nrT ht, T1]
        · show (sN (sp_rec T 3 (nI o) (nI p) (-6) (-6)).2 11 o p 2).1 11 b c = _
          rw [sN_1, if_neg (by omega), sr_N (by decide) (by decide), T11]
      · rename_i ht
        have hf : (sp_rec T 3 (nI o) (nI p) (-6) (-6)).1 = false := by simpa using ht
        refine ⟨j1.recF hf, st.trans (ST.recF hf), fun q => absurd rfl q, fun b c _ => ?_, fun _ => ?_⟩
        · show (sp_rec T 3 (nI o) (nI p) (-6) (-6)).2.1 11 b c = _
          rw [sr_N (by decide) (by decide), T11]
        · show (sp_rec T 3 (nI o) (nI p) (-6) (-6)).2.1 1 0 0 = _
          rw [sr_nrF hf, T1]
