/-! The class: calls that change something, 2. -/
theorem giveL_op {m : Int32} : ∀ (c o w : Nat) (S : sp), S.2 0 3 0 = 0 → JN S → o + c = S.1 0 0 0 → S.2 0 0 0 < m → (∀ b, S.1 4 b 0 = 0) → (sp_giveL m c o w S).2 = sp_openG c o m S := by
  intro c
  induction c with
  | zero => intro o w S _ _ _ _ _; rfl
  | succ c ih =>
    intro o w S h0 hj hoc hm h4
    obtain ⟨g1, g2⟩ := goes_on (o := o) (m := m) (S.1 5 o 0) 0 0 S h0
    obtain ⟨j1, j2, -⟩ := JN.goes (o := o) (m := m) (S.1 5 o 0) 0 0 S hj (by omega) (Nat.zero_add _) hm
    unfold sp_giveL sp_openG
    generalize sp_goes o m (S.1 5 o 0) 0 0 S = R at *
    obtain ⟨a, T⟩ := R
    cases a with
    | none => exact absurd rfl g1
    | some y =>
      simp only at j1 j2 g2 ⊢
      have z : ∀ b, T.1 4 b 0 = 0 := fun b => by
        have := j2.2.1 b
        rw [h4 b] at this
        omega
      rw [sN_same T (z o)]
      exact ih (o + 1) _ T g2 j1 (by rw [j2.1 0 0 0 (by omega)]; omega) (by rw [j2.2.2.2.2.2.2.2.2.2.2.2.1 0 0 (by decide) (by decide) (by decide)]; exact hm) z
theorem sV_comm (S : sp) {b b' : Nat} (hb : b ≠ b') (x y : Int32) : sV (sV S 0 b 0 x) 0 b' 0 y = sV (sV S 0 b' 0 y) 0 b 0 x := by
  unfold sV u3
  refine Prod.ext rfl (funext fun a => funext fun d => funext fun c => ?_)
  show (if a = 0 ∧ d = b' ∧ c = 0 then y else if a = 0 ∧ d = b ∧ c = 0 then x else S.2 a d c) = (if a = 0 ∧ d = b ∧ c = 0 then x else if a = 0 ∧ d = b' ∧ c = 0 then y else S.2 a d c)
  by_cases h1 : a = 0 ∧ d = b' ∧ c = 0
  · rw [if_pos h1, if_neg (fun x => hb (x.2.1.symm.trans h1.2.1)), if_pos h1]
  · rw [if_neg h1, if_neg h1]
theorem nI_sub {a b : Nat} (h : b ≤ a) : nI a - nI b = nI (a - b) := by
  have e : nI a = nI (a - b) + nI b := by rw [nI_add]; congr 1; omega
  rw [e, Int32.add_sub_cancel]
section CC2
variable {P : Nat × Nat} {fx : Nat → Prop} {mem : Nat → am_C} {K : Nat × Nat} {ad : Nat → Nat → Nat → Nat} {h : am_H} {S : sp} {X c : Nat}
theorem cc_open (hz : CZ P fx mem K X h S) (hk : KI S c) (hc : c < 100) : ∃ h', am_E P 42 0 [some (.ref X), none] [] h = some (some (.int (sp_open S).1), h') ∧ CZ P fx mem (K.1 + 100, K.2 + 10000) X h' (sp_open S).2 := by
  obtain ⟨ad, rfl, hv⟩ := hz
  have h3 : S.1 0 0 0 ≤ 3 := hk.1.1.1.2.2.1
  have v1 := hv.put 0 0 0 (fun _ => rfl) ⟨rfl, rfl⟩ (S' := sV S 0 2 0 0) (fun _ => SO.x 2 (by decide) 0) (c := ac_O 8 [.ref (ad 1 0 0), .ref (ad 3 0 0), .ref (ad 5 0 0), .ref (ad 7 0 0), .int (S.2 0 0 0), .int (S.2 0 1 0), .int 0, .int (S.2 0 3 0), .int (S.2 0 4 0)]) (fun _ => rfl) rfl rfl
  have v2 := v1.put 0 0 0 (fun _ => rfl) ⟨rfl, rfl⟩ (S' := sV (sV S 0 2 0 0) 0 3 0 0) (fun _ => SO.x 3 (by decide) 0) (c := ac_O 8 [.ref (ad 1 0 0), .ref (ad 3 0 0), .ref (ad 5 0 0), .ref (ad 7 0 0), .int (S.2 0 0 0), .int (S.2 0 1 0), .int 0, .int 0, .int (S.2 0 4 0)]) (fun _ => rfl) rfl rfl
  obtain ⟨h3', e3, v3⟩ := c_empty v2 h3
  rw [sV_comm S (by decide) 0 0] at v3
  have v3 : CW P fx mem K ad h3' (sp_up S) := v3
  have hju := hk.1.1.up
  have hm0 : (sp_up S).2 0 0 0 = S.2 0 0 0 := rfl
  have hms := mark_succ hk.1.1
  obtain ⟨h4, e4, v4⟩ := c_drop (S.2 0 0 0 + 1) (S.1 2 0 0) (sp_up S) h3' v3 rfl (by have := hk.1.2.2.1; omega)
  have hjd := hju.drop (S.2 0 0 0 + 1) (S.1 2 0 0)
  obtain ⟨dk1, dk2⟩ := sp_drop_keep (m := S.2 0 0 0 + 1) (S.1 2 0 0) (sp_up S)
  have hmd : (sp_drop (S.2 0 0 0 + 1) (S.1 2 0 0) (sp_up S)).2 0 0 0 = S.2 0 0 0 := by rw [dk2]; rfl
  have h0d : (sp_drop (S.2 0 0 0 + 1) (S.1 2 0 0) (sp_up S)).1 0 0 0 = S.1 0 0 0 := by rw [dk1 0 0 0 (by decide)]; rfl
  have hpd : (sp_drop (S.2 0 0 0 + 1) (S.1 2 0 0) (sp_up S)).2 0 3 0 = 0 := by rw [dk2]; rfl
  have h4d : ∀ b, (sp_drop (S.2 0 0 0 + 1) (S.1 2 0 0) (sp_up S)).1 4 b 0 = 0 := fun b => by rw [dk1 4 b 0 (by decide)]; rfl
  obtain ⟨h5, e5, v5⟩ := c_giveF (m := S.2 0 0 0 + 1) v4 hjd (by rw [hmd]; exact hms.2)
  rw [giveL_op _ _ _ _ hpd hjd (Nat.zero_add _) (by rw [hmd]; exact hms.2) h4d, h0d] at v5
  have v5 : CW P fx mem K ad h5 (sp_op1 S) := v5
  obtain ⟨hk1, hn1⟩ := hk.op1
  obtain ⟨h6, e6, v6⟩ := c_shown v5 hk1.1.1
  have hn2 : (sp_op1 S).1 1 0 0 ≤ (sp_shown (sp_op1 S)).2.1 1 0 0 := (JN.shown hk1.1.1).2.2.2.2.2.1
  refine ⟨h6, ?_, v6.z rfl⟩
  have x4 := v4.x
  have x3 := v3.x
  rw [hm0] at x3
  rw [hmd] at x4
  have hsub : nI ((sp_shown (sp_op1 S)).2.1 1 0 0) - nI (S.1 1 0 0) = nI ((sp_shown (sp_op1 S)).2.1 1 0 0 - S.1 1 0 0) := nI_sub (by omega)
  simp only [r42, o9 hv.x, Option.bind_some, hv.cntD, if_true, Option.toList, List.nil_append, List.cons_append, true_or, o9 (ah_same h (ad 0 0 0) _), ah_put2]
  simp only [ah_put2] at e3
  simp only [r42, e3, Option.bind_some, o9 x3, if_true, cl_of v3.ba, e4, Option.toList, List.nil_append, List.cons_append, o9 x4, e5, cl_of v5.x, e6, o9 v6.x, v6.cntD, hsub]
  rfl
theorem cc_power (hz : CZ P fx mem K X h S) (k : Int32) : ∃ h', am_E P 41 0 [some (.ref X), some (.int k)] [] h = some (some (.int (sp_power S k).1), h') ∧ CZ P fx mem (K.1 + 100, K.2 + 10000) X h' (sp_power S k).2 := by
  obtain ⟨ad, rfl, hv⟩ := hz
  have pu : ∀ y : Int32, CW P fx mem K ad (ah_put h (ad 0 0 0) (ac_O 8 [.ref (ad 1 0 0), .ref (ad 3 0 0), .ref (ad 5 0 0), .ref (ad 7 0 0), .int (S.2 0 0 0), .int (S.2 0 1 0), .int (S.2 0 2 0), .int y, .int (S.2 0 4 0)])) (sV S 0 3 0 y) := fun y => hv.put 0 0 0 (fun _ => rfl) ⟨rfl, rfl⟩ (fun _ => SO.x 3 (by decide) y) (fun _ => rfl) rfl rfl
  unfold sp_power
  by_cases h6 : k = -6
  · rw [if_neg (fun x => x.1 h6)]
    by_cases hd : S.2 0 2 0 = 0
    · rw [if_neg (not_not_intro hd), if_pos h6]
      refine ⟨_, ?_, (pu 0).z rfl⟩
      simp only [r41, if_pos h6, o9 hv.x, Option.bind_some, if_pos hd]
    · rw [if_pos hd]
      refine ⟨h, ?_, hv.z rfl⟩
      simp only [r41, if_pos h6, o9 hv.x, Option.bind_some, if_neg hd]
  · by_cases hr : k < 1 ∨ 5000 < k
    · rw [if_pos ⟨h6, hr⟩]
      refine ⟨h, ?_, hv.z rfl⟩
      by_cases h1 : k < 1
      · simp only [r41, if_neg h6, if_pos h1]
      · have h2 : ¬ k ≤ 5000 := Int32.not_le.mpr (hr.resolve_left h1)
        simp only [r41, if_neg h6, if_neg h1, if_neg h2]
    · rw [if_neg (fun x => hr x.2)]
      have h1 : ¬ k < 1 := fun e => hr (Or.inl e)
      have h2 : k ≤ 5000 := Int32.not_lt.mp (fun e => hr (Or.inr e))
      by_cases hd : S.2 0 2 0 = 0
      · rw [if_neg (not_not_intro hd), if_neg h6]
        refine ⟨_, ?_, (pu k).z rfl⟩
        simp only [r41, if_neg h6, if_neg h1, if_pos h2, o9 hv.x, Option.bind_some, if_pos hd]
      · rw [if_pos hd]
        refine ⟨h, ?_, hv.z rfl⟩
        simp only [r41, if_neg h6, if_neg h1, if_pos h2, o9 hv.x, Option.bind_some, if_neg hd]
theorem cc_fails (hz : CZ P fx mem K X h S) (hk : KI S c) (o n : Int32) : ∃ h', am_E P 40 0 [some (.ref X), some (.int o), some (.int n), none, none] [] h = some (some (.int (sp_fails S o n).1), h') ∧ CZ P fx mem (K.1 + 100, K.2 + 10000) X h' (sp_fails S o n).2 := by
  obtain ⟨ad, rfl, hv⟩ := hz
  have ha := c_outAt hv hk.1.1.1.2.2.1 o
  unfold sp_fails
  cases hx : am_ix o (S.1 0 0 0) with
  | none =>
    rw [hx] at ha
    refine ⟨h, ?_, hv.z rfl⟩
    simp only [r40, cl_of hv.x, if_true, ha, Option.bind_some, Option.toList, List.nil_append, List.cons_append]
  | some o' =>
    rw [hx] at ha
    have ho := (ix_some hx).1
    simp only at ha ⊢
    by_cases hr : n < 0 ∨ 100 < n
    · rw [if_pos hr]
      refine ⟨h, ?_, hv.z rfl⟩
      by_cases h1 : n < 0
      · simp only [r40, cl_of hv.x, if_true, ha, Option.bind_some, Option.toList, List.nil_append, List.cons_append, if_pos h1]
      · have h2 : ¬ n ≤ 100 := Int32.not_le.mpr (hr.resolve_left h1)
        simp only [r40, cl_of hv.x, if_true, ha, Option.bind_some, Option.toList, List.nil_append, List.cons_append, if_neg h1, if_neg h2]
    · rw [if_neg hr]
      have h1 : ¬ n < 0 := fun e => hr (Or.inl e)
      have h2 : n ≤ 100 := Int32.not_lt.mp (fun e => hr (Or.inr e))
      have v1 := hv.put 9 o' 0 (fun _ => rfl) ⟨ho, rfl⟩ (S' := sV S 1 o' 2 n) (fun _ => SO.v1 (by decide) _) (c := ac_O 4 [.int (nI o'), .int (S.2 1 o' 0), .ref (ad 10 o' 0), .ref (ad 11 o' 0), .int (nI (S.1 4 o' 0)), .ref (ad 12 o' 0), .int (S.2 1 o' 1), .int n, .ref (ad 14 o' 0), .ref (ad 16 o' 0)]) (fun ae => by
        show _ = ac_O 4 [.int (nI o'), .int ((sV S 1 o' 2 n).2 1 o' 0), .ref (ad 10 o' 0), .ref (ad 11 o' 0), .int (nI (S.1 4 o' 0)), .ref (ad 12 o' 0), .int ((sV S 1 o' 2 n).2 1 o' 1), .int ((sV S 1 o' 2 n).2 1 o' 2), .ref (ad 14 o' 0), .ref (ad 16 o' 0)]
        simp [sV_2]) rfl rfl
      refine ⟨_, ?_, v1.z rfl⟩
      simp only [r40, cl_of hv.x, if_true, ha, Option.bind_some, Option.toList, List.nil_append, List.cons_append, if_neg h1, if_pos h2, o10 (hv.ou ho)]
/-- takeRow -/
theorem c_trow (hv : CW P fx mem K ad h S) {o : Nat} (ho : o < S.1 0 0 0) (h4 : S.1 4 o 0 < 20) (k v : Int32) : ∃ h', am_E P 11 0 [some (.ref (ad 9 o 0)), some (.int k), some (.int v)] [] h = some (some (.int 1), h') ∧ CW P fx mem K ad h' (sN (sV (sV S 2 o (S.1 4 o 0) k) 3 o (S.1 4 o 0) v) 4 o 0 (S.1 4 o 0 + 1)) := by
  obtain ⟨fk, k1, k2⟩ := hv.ok ho
  obtain ⟨fv, v1, v2⟩ := hv.ov ho
  have ou := hv.ou ho
  have n1 : ad 10 o 0 ≠ ad 9 o 0 := hv.ne (k := 10) (k' := 9) ⟨ho, rfl⟩ ⟨ho, rfl⟩ (fun _ => rfl) (fun _ => rfl) (fun x => absurd x.1 (by decide))
  have n2 : ad 11 o 0 ≠ ad 9 o 0 := hv.ne (k := 11) (k' := 9) ⟨ho, rfl⟩ ⟨ho, rfl⟩ (fun _ => rfl) (fun _ => rfl) (fun x => absurd x.1 (by decide))
  have n3 : ad 11 o 0 ≠ ad 10 o 0 := hv.ne (k := 11) (k' := 10) ⟨ho, rfl⟩ ⟨ho, rfl⟩ (fun _ => rfl) (fun _ => rfl) (fun x => absurd x.1 (by decide))
  have y9 : (ah_put h (ad 10 o 0) (ac_I 20 (upd fk (S.1 4 o 0) k))).2.2 (ad 9 o 0) = ac_O 4 [.int (nI o), .int (S.2 1 o 0), .ref (ad 10 o 0), .ref (ad 11 o 0), .int (nI (S.1 4 o 0)), .ref (ad 12 o 0), .int (S.2 1 o 1), .int (S.2 1 o 2), .ref (ad 14 o 0), .ref (ad 16 o 0)] := by rw [ah_ne (Ne.symm n1)]; exact ou
  have y11 : (ah_put h (ad 10 o 0) (ac_I 20 (upd fk (S.1 4 o 0) k))).2.2 (ad 11 o 0) = ac_I 20 fv := by rw [ah_ne n3]; exact v1
  have z9 : (ah_put (ah_put h (ad 10 o 0) (ac_I 20 (upd fk (S.1 4 o 0) k))) (ad 11 o 0) (ac_I 20 (upd fv (S.1 4 o 0) v))).2.2 (ad 9 o 0) = ac_O 4 [.int (nI o), .int (S.2 1 o 0), .ref (ad 10 o 0), .ref (ad 11 o 0), .int (nI (S.1 4 o 0)), .ref (ad 12 o 0), .int (S.2 1 o 1), .int (S.2 1 o 2), .ref (ad 14 o 0), .ref (ad 16 o 0)] := by rw [ah_ne (Ne.symm n2)]; exact y9
  refine ⟨ah_put (ah_put (ah_put h (ad 10 o 0) (ac_I 20 (upd fk (S.1 4 o 0) k))) (ad 11 o 0) (ac_I 20 (upd fv (S.1 4 o 0) v))) (ad 9 o 0) (ac_O 4 [.int (nI o), .int (S.2 1 o 0), .ref (ad 10 o 0), .ref (ad 11 o 0), .int (nI (S.1 4 o 0 + 1)), .ref (ad 12 o 0), .int (S.2 1 o 1), .int (S.2 1 o 2), .ref (ad 14 o 0), .ref (ad 16 o 0)]), ?_, ?_⟩
  · have c1 : nI (S.1 4 o 0) < 20 := nI_lt (b := 20) h4 (by decide)
    simp only [r11, o10 ou, Option.bind_some, if_pos c1, iast_I k1 h4 (by decide), o10 y9, iast_I y11 h4 (by decide), o10 z9, nI_1, or_true, if_true]
  · have e4 : ∀ b, (sN (sV (sV S 2 o (S.1 4 o 0) k) 3 o (S.1 4 o 0) v) 4 o 0 (S.1 4 o 0 + 1)).1 4 b 0 = if b = o then S.1 4 o 0 + 1 else S.1 4 b 0 := fun b => by simp [sN_1, sV_1]
    have e2 : ∀ b q, (sN (sV (sV S 2 o (S.1 4 o 0) k) 3 o (S.1 4 o 0) v) 4 o 0 (S.1 4 o 0 + 1)).2 2 b q = if b = o ∧ q = S.1 4 o 0 then k else S.2 2 b q := fun b q => by simp [sN_2, sV_2]
    have e3 : ∀ b q, (sN (sV (sV S 2 o (S.1 4 o 0) k) 3 o (S.1 4 o 0) v) 4 o 0 (S.1 4 o 0 + 1)).2 3 b q = if b = o ∧ q = S.1 4 o 0 then v else S.2 3 b q := fun b q => by simp [sN_2, sV_2]
    refine hv.puts (fun a i j => (a = 9 ∨ a = 10 ∨ a = 11) ∧ i = o ∧ j = 0) (fun ad => ?_) (fun a i j hN ae => ?_) (fun a i j hN hl => ?_) rfl rfl (fun a ha => ?_) (fun a i j hN hl ae => ?_) rfl rfl
    · intro a i j hl hN
      rcases k23 hl with rfl | rfl | rfl | rfl | rfl | rfl | rfl | rfl | rfl | rfl | rfl | rfl | rfl | rfl | rfl | rfl | rfl | rfl | rfl | rfl | rfl | rfl | rfl
      all_goals first
        | exact ⟨hl, rfl, fun c hc => hc⟩
        | exact ⟨hl, rfl, fun c hc => by refine ok22 ?_ ?_ ?_ ?_ hc <;> (intros; rfl)⟩
        | skip
      · have hi : ¬ i = o := fun x => hN ⟨by simp, x, hl.2⟩
        refine ⟨hl, rfl, fun c hc => ?_⟩
        show c = ac_O 4 [.int (nI i), .int (S.2 1 i 0), .ref (ad 10 i 0), .ref (ad 11 i 0), .int (nI ((sN (sV (sV S 2 o (S.1 4 o 0) k) 3 o (S.1 4 o 0) v) 4 o 0 (S.1 4 o 0 + 1)).1 4 i 0)), .ref (ad 12 i 0), .int (S.2 1 i 1), .int (S.2 1 i 2), .ref (ad 14 i 0), .ref (ad 16 i 0)]
        rw [e4, if_neg hi]
        exact hc
      · have hi : ¬ i = o := fun x => hN ⟨by simp, x, hl.2⟩
        refine ⟨hl, rfl, fun c hc => ?_⟩
        obtain ⟨f, b1, b2⟩ := hc
        refine ⟨f, b1, fun q hq => ?_⟩
        rw [e4, if_neg hi] at hq
        rw [e2, if_neg (fun x => hi x.1)]
        exact b2 q hq
      · have hi : ¬ i = o := fun x => hN ⟨by simp, x, hl.2⟩
        refine ⟨hl, rfl, fun c hc => ?_⟩
        obtain ⟨f, b1, b2⟩ := hc
        refine ⟨f, b1, fun q hq => ?_⟩
        rw [e4, if_neg hi] at hq
        rw [e3, if_neg (fun x => hi x.1)]
        exact b2 q hq
    · rcases hN with ⟨rfl | rfl | rfl, -, -⟩ <;> rfl
    · rcases hN with ⟨rfl | rfl | rfl, -, -⟩ <;> exact hl
    · rw [ah_ne (ha 9 o 0 ⟨by simp, rfl, rfl⟩ ⟨ho, rfl⟩), ah_ne (ha 11 o 0 ⟨by simp, rfl, rfl⟩ ⟨ho, rfl⟩), ah_ne (ha 10 o 0 ⟨by simp, rfl, rfl⟩ ⟨ho, rfl⟩)]
    · rcases hN with ⟨rfl | rfl | rfl, rfl, rfl⟩
      · rw [ah_same]
        show _ = ac_O 4 [.int (nI i), .int (S.2 1 i 0), .ref (ad 10 i 0), .ref (ad 11 i 0), .int (nI ((sN (sV (sV S 2 i (S.1 4 i 0) k) 3 i (S.1 4 i 0) v) 4 i 0 (S.1 4 i 0 + 1)).1 4 i 0)), .ref (ad 12 i 0), .int (S.2 1 i 1), .int (S.2 1 i 2), .ref (ad 14 i 0), .ref (ad 16 i 0)]
        rw [e4, if_pos rfl]
      · rw [ah_ne n1, ah_ne (Ne.symm n3), ah_same]
        refine ⟨_, rfl, fun q hq => ?_⟩
        rw [e4, if_pos rfl] at hq
        rw [e2]
        by_cases hqe : q = S.1 4 i 0
        · simp [upd, hqe]
        · simp [upd, hqe]; exact k2 q (by omega)
      · rw [ah_ne n2, ah_same]
        refine ⟨_, rfl, fun q hq => ?_⟩
        rw [e4, if_pos rfl] at hq
        rw [e3]
        by_cases hqe : q = S.1 4 i 0
        · simp [upd, hqe]
        · simp [upd, hqe]; exact v2 q (by omega)
theorem cc_write (hz : CZ P fx mem K X h S) (hk : KI S c) (o k v : Int32) : ∃ h', am_E P 34 0 [some (.ref X), some (.int o), some (.int k), some (.int v), none] [] h = some (some (.int (sp_write S o k v).1), h') ∧ CZ P fx mem (K.1 + 100, K.2 + 10000) X h' (sp_write S o k v).2 := by
  obtain ⟨ad, rfl, hv⟩ := hz
  have ha := c_outAt hv hk.1.1.1.2.2.1 o
  have c01 : ¬ (1 : Int32) = 0 := by decide
  unfold sp_write
  cases hx : am_ix o (S.1 0 0 0) with
  | none =>
    rw [hx] at ha
    refine ⟨h, ?_, hv.z rfl⟩
    simp only [r34, cl_of hv.x, if_true, ha, Option.bind_some, Option.toList, List.nil_append, List.cons_append]
  | some o' =>
    rw [hx] at ha
    have ho := (ix_some hx).1
    simp only at ha ⊢
    have h20 : S.1 4 o' 0 ≤ 20 := hk.1.2.2.2.2.1 o'
    by_cases hr : k < 0 ∨ 9 < k
    · rw [if_pos hr]
      refine ⟨h, ?_, hv.z rfl⟩
      have hr' : k < 0 ∨ 10 ≤ k := by rw [key_10]; exact hr
      simp only [r34, cl_of hv.x, if_true, ha, Option.bind_some, Option.toList, List.nil_append, List.cons_append, c_isKey, if_pos hr']
    · rw [if_neg hr]
      have hr' : ¬ (k < 0 ∨ 10 ≤ k) := by rw [key_10]; exact hr
      by_cases hd : S.2 0 2 0 = 0
      · rw [if_neg (not_not_intro hd)]
        by_cases he : S.2 0 1 0 = 0
        · rw [if_neg (not_not_intro he)]
          by_cases h4 : S.1 4 o' 0 = 20
          · rw [if_pos h4]
            refine ⟨h, ?_, hv.z rfl⟩
            have ou := hv.ou ho
            rw [h4] at ou
            have c1 : ¬ nI 20 < 20 := by decide
            have tr : am_E P 11 0 [some (.ref (ad 9 o' 0)), some (.int k), some (.int v)] [] h = some (some (.int 0), h) := by
              simp only [r11, o10 ou, Option.bind_some, if_neg c1, true_or, if_true]
            simp only [r34, cl_of hv.x, if_true, ha, Option.bind_some, Option.toList, List.nil_append, List.cons_append, c_isKey, if_neg hr', if_neg c01, o9 hv.x, if_pos hd, if_pos he, cl_of ou, tr]
          · rw [if_neg h4]
            obtain ⟨h1, e1, v1⟩ := c_trow hv ho (by omega) k v
            refine ⟨h1, ?_, v1.z rfl⟩
            have ou1 := v1.ou (o := o') ho
            have e4 : (sN (sV (sV S 2 o' (S.1 4 o' 0) k) 3 o' (S.1 4 o' 0) v) 4 o' 0 (S.1 4 o' 0 + 1)).1 4 o' 0 = S.1 4 o' 0 + 1 := by simp [sN_1]
            rw [e4] at ou1
            simp only [r34, cl_of hv.x, if_true, ha, Option.bind_some, Option.toList, List.nil_append, List.cons_append, c_isKey, if_neg hr', if_neg c01, o9 hv.x, if_pos hd, if_pos he, cl_of (hv.ou ho), e1, o10 ou1]
        · rw [if_pos he]
          refine ⟨h, ?_, hv.z rfl⟩
          simp only [r34, cl_of hv.x, if_true, ha, Option.bind_some, Option.toList, List.nil_append, List.cons_append, c_isKey, if_neg hr', if_neg c01, o9 hv.x, if_pos hd, if_neg he]
      · rw [if_pos hd]
        refine ⟨h, ?_, hv.z rfl⟩
        simp only [r34, cl_of hv.x, if_true, ha, Option.bind_some, Option.toList, List.nil_append, List.cons_append, c_isKey, if_neg hr', if_neg c01, o9 hv.x, if_neg hd]
end CC2
