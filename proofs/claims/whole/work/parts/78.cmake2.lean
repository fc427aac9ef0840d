/-! The class: a reader is made; the two calls. -/
section CM2
variable {P : Nat × Nat} {fx : Nat → Prop} {mem : Nat → am_C} {K : Nat × Nat} {ad ae : Nat → Nat → Nat → Nat} {h : am_H} {S : sp} {X c : Nat}
/-- a reader more -/
def sp_ra (S : sp) (o n : Nat) : sp := sN (sN (sN S 7 n 0 o) 8 n 0 0) 3 0 0 (n + 1)
theorem SO.rdr {n q e o : Nat} (hn : S.1 3 0 0 = n) : SO P ad (aR (u3 ad 4 0 0 e) n q) S (sp_ra S o n) (fun k i j => k = 3 ∨ k = 4 ∨ ((k = 21 ∨ k = 22) ∧ i = n ∧ j = 0)) := by
  have hA : ∀ k i j, k ≠ 4 → i ≠ n → aR (u3 ad 4 0 0 e) n q k i j = ad k i j := fun k i j hk hi => by
    unfold aR u3
    rw [if_neg (fun x => hi x.2.1), if_neg (fun x => hk x.1)]
  have e7 : ∀ i, i ≠ n → (sp_ra S o n).1 7 i 0 = S.1 7 i 0 := fun i hi => by simp [sp_ra, sN_1, hi]
  have e8 : ∀ i, i ≠ n → (sp_ra S o n).1 8 i 0 = S.1 8 i 0 := fun i hi => by simp [sp_ra, sN_1, hi]
  have e6 : ∀ b, (sp_ra S o n).1 6 b 0 = S.1 6 b 0 := fun b => rfl
  intro k i j hl hN
  rcases k23 hl with rfl | rfl | rfl | rfl | rfl | rfl | rfl | rfl | rfl | rfl | rfl | rfl | rfl | rfl | rfl | rfl | rfl | rfl | rfl | rfl | rfl | rfl | rfl
  all_goals first
    | exact ⟨hl, rfl, fun c hc => hc⟩
    | exact absurd (Or.inl rfl) hN
    | exact absurd (Or.inr (Or.inl rfl)) hN
    | skip
  · have hi : i ≠ n := fun x => hN (Or.inr (Or.inr ⟨Or.inl rfl, x, hl.2⟩))
    have hl1 : i < n + 1 := hl.1
    refine ⟨⟨by omega, hl.2⟩, hA _ _ _ (by decide) hi, fun c hc => ?_⟩
    show c = ac_O 6 [.ref (ad 14 ((sp_ra S o n).1 7 i 0) 0), .ref (aR (u3 ad 4 0 0 e) n q 22 i 0), .int (nI ((sp_ra S o n).1 8 i 0))]
    rw [hA _ _ _ (by decide) hi, e7 i hi, e8 i hi]
    exact hc
  · have hi : i ≠ n := fun x => hN (Or.inr (Or.inr ⟨Or.inr rfl, x, hl.2⟩))
    have hl1 : i < n + 1 := hl.1
    refine ⟨⟨by omega, hl.2⟩, hA _ _ _ (by decide) hi, fun c hc => ?_⟩
    obtain ⟨b1, f, b2, b3⟩ := hc
    refine ⟨by rw [e7 i hi, e8 i hi]; exact b1, f, b2, fun k hk => ?_⟩
    rw [e7 i hi, e8 i hi, q_cnt_cg (S := S) (S' := sp_ra S o n) _ (fun _ _ => rfl)]
    exact b3 k hk
theorem c_radd (hv : CV P fx mem K ad h S) {n q s o : Nat} {g : Nat → am_C} {H : am_H} (hno : S.1 3 0 0 = n) (h3 : n < 4) (hq : h.1 = q) (hs : s ≤ h.2.1 + 300) (hN : NO q s 1 g h.2.2 H)
    (g0 : g 0 = ac_O 6 [.ref (ad 14 o 0), .ref (q + 1), .int 0]) (g1 : g 1 = ac_I 10 (fun _ => 0)) :
    ∃ h' e, am_E P 122 0 [some (.ref (ad 3 0 0)), some (.ref q)] [] H = some (some (.int 1), h') ∧ CV P fx mem (K.1 + 11, K.2 + 400) (aR (u3 ad 4 0 0 e) n q) h' (sp_ra S o n) := by
  obtain ⟨n1, n2, n3, n4⟩ := hN
  have r1 := hv.1 3 0 0 ⟨rfl, rfl⟩
  have rP := hv.2.2.1 P.1 hv.2.2.2.1
  have hE : h.2.2 P.1 = ac_E := rP.2.trans hv.2.2.2.2.1
  have hlP : ad 3 0 0 ≠ P.1 := fun e => r1.2.1 (e ▸ hv.2.2.2.1)
  obtain ⟨mc, hl⟩ := hv.rl
  obtain ⟨e0, cap, gg, hl0, hlt0, hle0, hcase, hg0⟩ : ∃ (e0 cap : Nat) (gg : Nat → Option Nat), h.2.2 (ad 3 0 0) = ac_O 0 [.int mc, .ref e0, .int (nI n)] ∧ e0 < h.1 ∧ ad 3 0 0 ≠ e0 ∧ ((n = 0 ∧ e0 = P.1 ∧ h.2.2 e0 = ac_E) ∨ (0 < n ∧ n ≤ cap ∧ cap < 100000 ∧ h.2.2 e0 = ac_R cap gg)) ∧ (0 < n → e0 = ad 4 0 0 ∧ ∀ i, i < n → gg i = some (ad 21 i 0)) := by
    rw [hno] at hl
    by_cases h0 : n = 0
    · rw [if_pos h0] at hl
      exact ⟨P.1, 0, fun _ => none, hl, rP.1, hlP, Or.inl ⟨h0, rfl, hE⟩, fun h1 => absurd h0 (by omega)⟩
    · rw [if_neg h0] at hl
      obtain ⟨b1, b2, cap, gg, b3, b4, b5, b6⟩ := hv.1 4 0 0 ⟨⟨rfl, rfl⟩, by omega⟩
      rw [hno] at b4 b6
      exact ⟨ad 4 0 0, cap, gg, hl, b1, fun e => absurd (hv.2.1 3 0 0 4 0 0 ⟨rfl, rfl⟩ ⟨⟨rfl, rfl⟩, by omega⟩ e).1 (by decide), Or.inr ⟨by omega, b4, b5, b3⟩, fun _ => ⟨rfl, b6⟩⟩
  have hH0 : H.2.2 q = ac_O 6 [.ref (ad 14 o 0), .ref (q + 1), .int 0] := (n3 0 (by decide)).trans g0
  have hlH : H.2.2 (ad 3 0 0) = ac_O 0 [.int mc, .ref e0, .int (nI n)] := by rw [n4 _ (by have := r1.1; omega)]; exact hl0
  have hcH : (n = 0 ∧ e0 = P.1 ∧ H.2.2 e0 = ac_E) ∨ (0 < n ∧ n ≤ cap ∧ cap < 100000 ∧ H.2.2 e0 = ac_R cap gg) := by rw [n4 e0 (by omega)]; exact hcase
  obtain ⟨h', e', cap', g', mc', e1, e2, e3, e4, e5, e6, e7, e8, e9⟩ := c_add P hlH (by have := r1.1; omega) (by omega) hle0 hH0 (by decide) (by omega) (by have := r1.1; omega) (by omega) hcH
  have hne : ∀ k i j, lv S k i j → ¬ (k = 4 ∧ i = 0 ∧ j = 0) → ad k i j ≠ e' := by
    intro k i j hl hn e
    rcases e8 with ⟨b, b0, _⟩ | ⟨b, _⟩
    · rw [b, (hg0 b0).1] at e
      exact hn (hv.2.1 k i j 4 0 0 hl ⟨⟨rfl, rfl⟩, by omega⟩ e)
    · have := (hv.1 k i j hl).1
      omega
  have hqe : e' < q ∨ q + 2 ≤ e' := by
    rcases e8 with ⟨b, b0, _⟩ | ⟨b, _⟩ <;> omega
  have hfe : ¬ fx e' := by
    rcases e8 with ⟨b, b0, _⟩ | ⟨b, _⟩
    · rw [b, (hg0 b0).1]
      exact (hv.1 4 0 0 ⟨⟨rfl, rfl⟩, by omega⟩).2.1
    · intro x
      have := (hv.2.2.1 _ x).1
      omega
  have hup : q + 2 ≤ h'.1 ∧ h'.1 ≤ q + 3 ∧ h'.2.1 ≤ h.2.1 + 400 := by
    rcases e8 with ⟨_, _, b1, b2⟩ | ⟨_, b1, b2⟩ <;> omega
  have hqf : ∀ i, ¬ fx (q + i) := fun i x => by have := (hv.2.2.1 _ x).1; omega
  have cell : ∀ i, i ≤ 1 → h'.2.2 (q + i) = g i := fun i hi => by
    rw [e9 (q + i) (by have := r1.1; omega) (by omega)]
    exact n3 i hi
  have old : ∀ a, a < q → a ≠ ad 3 0 0 → a ≠ e' → h'.2.2 a = h.2.2 a := fun a ha h1 h2 => by rw [e9 a h1 h2]; exact n4 a ha
  have e0' : (sp_ra S o n).1 3 0 0 = n + 1 := by simp [sp_ra, sN_1]
  have hA : ∀ k, k = 21 ∨ k = 22 → aR (u3 ad 4 0 0 e') n q k n 0 = q + (k - 21) := fun k hk => by
    unfold aR
    rw [if_pos ⟨hk, rfl, rfl⟩]
  refine ⟨h', e', e1, hv.upd (fun k i j => k = 3 ∨ k = 4 ∨ ((k = 21 ∨ k = 22) ∧ i = n ∧ j = 0)) (SO.rdr hno) (by omega) (fun k i j h1 h2 hN => ?_) (fun k i j h1 _ _ => (hv.1 k i j h1).2.1) (fun k i j h1 hN => ?_) ?_ (fun a ha => ?_) hv.2.2.2.1 hv.2.2.2.2.1 ?_ ?_⟩
  · refine old _ (by have := (hv.1 k i j h1).1; omega) (fun e => hN (Or.inl (hv.2.1 k i j 3 0 0 h1 ⟨rfl, rfl⟩ e).1)) (hne k i j h1 (fun x => hN (Or.inr (Or.inl x.1))))
  · rcases hN with rfl | rfl | ⟨hk, rfl, rfl⟩
    · obtain ⟨rfl, rfl⟩ := h1
      refine ⟨by show ad 3 0 0 < h'.1; have := r1.1; omega, r1.2.1, mc', ?_⟩
      show h'.2.2 (ad 3 0 0) = ac_O 0 [.int mc', .ref (if (sp_ra S o n).1 3 0 0 = 0 then P.1 else e'), .int (nI ((sp_ra S o n).1 3 0 0))]
      rw [e0', if_neg (by omega)]
      exact e2
    · obtain ⟨rfl, rfl⟩ := h1.1
      refine ⟨?_, hfe, cap', g', e3, by rw [e0']; exact e4, e5, fun i hi => ?_⟩
      · show e' < h'.1
        rcases e8 with ⟨b, _, b1, _⟩ | ⟨b, b1, _⟩ <;> omega
      · rw [e0'] at hi
        by_cases hin : i = n
        · rw [hin, hA 21 (Or.inl rfl)]
          exact e7
        · rw [e6 i (by omega), (hg0 (by omega)).2 i (by omega)]
          unfold aR u3
          rw [if_neg (fun x => hin x.2.1), if_neg (fun x => absurd x.1 (by decide))]
    · have hA9 := hA k hk
      rw [hA9]
      have q7 : (sp_ra S o i).1 7 i 0 = o := by simp [sp_ra, sN_1]
      have q8 : (sp_ra S o i).1 8 i 0 = 0 := by simp [sp_ra, sN_1]
      refine ⟨by omega, hqf _, ?_⟩
      rw [cell _ (by omega)]
      rcases hk with rfl | rfl
      · show g 0 = ac_O 6 [.ref (ad 14 ((sp_ra S o i).1 7 i 0) 0), .ref (aR (u3 ad 4 0 0 e') i q 22 i 0), .int (nI ((sp_ra S o i).1 8 i 0))]
        rw [hA 22 (Or.inr rfl), q7, q8]
        exact g0
      · refine ⟨by rw [q8]; exact Nat.zero_le _, _, g1, fun k hk => ?_⟩
        rw [q8]
        rfl
  · have s1 := AJ.mv (L := lv S) (L' := fun k i j => lv S k i j ∨ (k = 4 ∧ i = 0 ∧ j = 0)) hv.2.1 4 0 0 e' (fun k i j hh => hh) hne
    refine AJ.ext s1 (fun k i j => (k = 21 ∨ k = 22) ∧ i = n ∧ j = 0) (fun k => k - 21) 2 q (fun k i j hh hn => ?_) (fun k i j hn => ?_) (fun k i j hn => ⟨?_, ?_⟩) (fun k i j k' i' j' h1 h2 he => ?_) (fun k i j hh => ?_)
    · by_cases h2 : k = 4 ∧ i = 0 ∧ j = 0
      · exact Or.inr h2
      · by_cases hN : k = 3 ∨ k = 4 ∨ ((k = 21 ∨ k = 22) ∧ i = n ∧ j = 0)
        · rcases hN with rfl | rfl | x
          · exact Or.inl hh
          · exact absurd ⟨rfl, hh.1.1, hh.1.2⟩ h2
          · exact absurd x hn
        · exact Or.inl (SO.rdr (P := P) (ad := ad) (e := e') (q := q) (o := o) hno k i j hh hN).1
    · unfold aR
      rw [if_neg hn]
    · unfold aR
      rw [if_pos hn]
    · show k - 21 < 2
      omega
    · have he : k - 21 = k' - 21 := he
      omega
    · unfold u3
      split
      · exact hqe
      · rename_i hz
        rcases hh with hh | hh
        · exact Or.inl (by have := (hv.1 k i j hh).1; omega)
        · exact absurd hh hz
  · have hx := hv.2.2.1 a ha
    refine ⟨by omega, ?_⟩
    rw [old a (by omega) (fun e => r1.2.1 (e ▸ ha)) (fun e => hfe (e ▸ ha))]
    exact hx.2
  · have := hv.2.2.2.2.2.1
    show h'.1 ≤ K.1 + 11 + w1 S
    omega
  · have := hv.2.2.2.2.2.2
    show h'.2.1 ≤ K.2 + 400 + w2 S
    omega
theorem cc_output (hz : CZ P fx mem K X h S) (hk : KI S c) (x : Int32) : ∃ h', am_E P 33 0 [some (.ref X), some (.int x), none] [] h = some (some (.int (sp_output S x).1), h') ∧ CZ P fx mem (K.1 + 100, K.2 + 10000) X h' (sp_output S x).2 := by
  obtain ⟨ad, rfl, hv⟩ := hz
  obtain ⟨a1, a2, a3, a4, a5, a6, a7, a8, a9, a10, a11⟩ := hk.1
  have h3 : S.1 0 0 0 ≤ 3 := a1.1.2.2.1
  unfold sp_output
  by_cases hx : x ≠ 0 ∧ x ≠ 1
  · rw [if_pos hx]
    refine ⟨h, ?_, hv.z rfl⟩
    simp only [r33, if_neg hx.1, if_neg hx.2]
  · rw [if_neg hx]
    have go : am_E P 33 0 [some (.ref (ad 0 0 0)), some (.int x), none] [] h = am_E P 33 12 [some (.ref (ad 0 0 0)), some (.int x), none] [] h := by
      by_cases h0 : x = 0
      · simp only [r33, if_pos h0]
      · have h1 : x = 1 := Classical.byContradiction (fun e => hx ⟨h0, e⟩)
        simp only [r33, if_neg h0, if_pos h1]
    rw [go]
    by_cases hd : S.2 0 2 0 = 0
    · rw [if_neg (not_not_intro hd)]
      by_cases hm : 0 < S.2 0 5 0
      · rw [if_pos hm]
        refine ⟨h, ?_, hv.z rfl⟩
        have hm' : ¬ S.2 0 5 0 ≤ 0 := Int32.not_le.mpr hm
        simp only [r33, o9 hv.x, Option.bind_some, if_pos hd, o3 hv.ba, if_neg hm']
      · rw [if_neg hm]
        have hm' : S.2 0 5 0 ≤ 0 := Int32.not_lt.mp hm
        by_cases ho : S.1 0 0 0 = 3
        · rw [if_pos ho]
          refine ⟨h, ?_, hv.z rfl⟩
          have sz := hv.szO
          rw [ho] at sz
          have c3 : ¬ nI 3 < 3 := by decide
          simp only [r33, o9 hv.x, Option.bind_some, if_pos hd, o3 hv.ba, if_pos hm', sz, if_true, Option.toList, List.nil_append, List.cons_append, if_neg c3]
        · rw [if_neg ho]
          have c3 : nI (S.1 0 0 0) < 3 := nI_lt (b := 3) (by omega) (by decide)
          have N0 : NO h.1 (h.2.1 + 10) 0 (fun _ => ac_O 4 [.int 0, .int 0, .null, .null, .int 0, .null, .int 0, .int 0, .null, .null]) h.2.2 (ah_new h 10 (ac_O 4 [.int 0, .int 0, .null, .null, .int 0, .null, .int 0, .int 0, .null, .null])) :=
            ⟨rfl, rfl, fun i hi => by obtain rfl : i = 0 := by omega
                                      exact an_same _ _ _, fun a ha => an_ne (by omega)⟩
          obtain ⟨H, g, e1, N1, g0, g1, g2, g3, g4, g5, g6, g7, g8, g9⟩ := c_newOut P N0 rfl (nI (S.1 0 0 0)) x
          have x0 := hv.x
          have sz := hv.szO
          have ba := hv.ba
          obtain ⟨ae, hv⟩ := hv
          have hb := a7 (S.1 0 0 0) (Nat.le_refl _)
          have hb2 := a1.1.2.2.2.1 (S.1 0 0 0) (Nat.le_refl _)
          obtain ⟨h', e, e2, v2⟩ := c_oadd hv (x := x) rfl (by omega) rfl (by show h.2.1 + 10 + 208 ≤ h.2.1 + 300; omega) N1 ⟨hb.1, hb2.1, hb2.2, hb.2.1, hb.2.2.1, hb.2.2.2⟩ (fun r hr => (a11.2 r hr).1) g0 g1 g2 g3 g4 g5 g6 g7 g8 g9
          have vz : CW P fx mem (K.1 + 11, K.2 + 400) (aO (u3 (jn ad ae) 2 0 0 e) (S.1 0 0 0) h.1) h' (sN (sV S 1 (S.1 0 0 0) 0 x) 0 0 0 (S.1 0 0 0 + 1)) := ⟨aO (u3 (jn ad ae) 2 0 0 e) (S.1 0 0 0) h.1, by rw [jn_self]; exact v2⟩
          refine ⟨h', ?_, aO (u3 (jn ad ae) 2 0 0 e) (S.1 0 0 0) h.1, rfl, vz.kup (by show K.1 + 11 ≤ K.1 + 100; omega) (by show K.2 + 400 ≤ K.2 + 10000; omega)⟩
          · have lr : ∃ mc, h.2.2 (ad 1 0 0) = ac_O 0 [.int mc, .ref (if S.1 0 0 0 = 0 then P.1 else ae 2 0 0), .int (nI (S.1 0 0 0))] := hv.ol
            obtain ⟨mc, lr⟩ := lr
            have l0 : ad 1 0 0 < h.1 := (hv.1 1 0 0 ⟨rfl, rfl⟩).1
            have lH : am_cls H (ad 1 0 0) = some 0 := by
              refine cl_of (fs := [.int mc, .ref (if S.1 0 0 0 = 0 then P.1 else ae 2 0 0), .int (nI (S.1 0 0 0))]) ?_
              rw [N1.2.2.2 _ l0]
              exact lr
            have e2 : am_E P 122 0 [some (.ref (ad 1 0 0)), some (.ref h.1)] [] H = some (some (.int 1), h') := e2
            simp only [r33, o9 x0, Option.bind_some, if_pos hd, o3 ba, if_pos hm', sz, if_true, Option.toList, List.nil_append, List.cons_append, if_pos c3, e1, lH, e2]
    · rw [if_pos hd]
      refine ⟨h, ?_, hv.z rfl⟩
      simp only [r33, o9 hv.x, Option.bind_some, if_neg hd]
theorem cc_reader (hz : CZ P fx mem K X h S) (hk : KI S c) (o : Int32) : ∃ h', am_E P 47 0 [some (.ref X), some (.int o), none] [] h = some (some (.int (sp_reader S o).1), h') ∧ CZ P fx mem (K.1 + 100, K.2 + 10000) X h' (sp_reader S o).2 := by
  obtain ⟨ad, rfl, hv⟩ := hz
  obtain ⟨a1, a2, a3, a4, a5, a6, a7, a8, a9, a10, a11⟩ := hk.1
  have ha := c_outAt hv a1.1.2.2.1 o
  unfold sp_reader
  cases hx : am_ix o (S.1 0 0 0) with
  | none =>
    rw [hx] at ha
    refine ⟨h, ?_, hv.z rfl⟩
    simp only [r47, cl_of hv.x, if_true, ha, Option.bind_some, Option.toList, List.nil_append, List.cons_append]
  | some o' =>
    rw [hx] at ha
    have ho := (ix_some hx).1
    simp only at ha ⊢
    by_cases hs : S.2 1 o' 0 = 0
    · rw [if_neg (not_not_intro hs)]
      by_cases h4 : S.1 3 0 0 = 4
      · rw [if_pos h4]
        refine ⟨h, ?_, hv.z rfl⟩
        have sz := hv.szR
        rw [h4] at sz
        have c3 : ¬ nI 4 < 4 := by decide
        simp only [r47, o9 hv.x, if_true, ha, Option.bind_some, Option.toList, List.nil_append, List.cons_append, o10 (hv.ou ho), if_pos hs, sz, if_neg c3]
      · rw [if_neg h4]
        have c3 : nI (S.1 3 0 0) < 4 := nI_lt (b := 4) (by have := a11.1; omega) (by decide)
        have n10 : ¬ ((10 : Int32).toInt < 0 ∨ 1000000 < (10 : Int32).toInt) := by decide
        have e10 : (10 : Int32).toNatClampNeg = 10 := by decide
        have N0 : NO h.1 (h.2.1 + 3) 0 (fun _ => ac_O 6 [.null, .null, .int 0]) h.2.2 (ah_new h 3 (ac_O 6 [.null, .null, .int 0])) :=
          ⟨rfl, rfl, fun i hi => by obtain rfl : i = 0 := by omega
                                    exact an_same _ _ _, fun a ha => an_ne (by omega)⟩
        have N1 := N0.mk 10 (ac_I 10 (fun _ => 0))
        have c1 := N1.a0 (c := ac_O 6 [.null, .null, .int 0]) (by simp [va_up])
        have N2 := N1.p0 (ac_O 6 [.ref (ad 14 o' 0), .ref (h.1 + 1), .int 0])
        have ini : am_E P 21 0 [some (.ref h.1), some (.ref (ad 14 o' 0))] [] (ah_new h 3 (ac_O 6 [.null, .null, .int 0])) = some (none, ah_put (ah_new (ah_new h 3 (ac_O 6 [.null, .null, .int 0])) 10 (ac_I 10 (fun _ => 0))) h.1 (ac_O 6 [.ref (ad 14 o' 0), .ref (h.1 + 1), .int 0])) := by
          simp only [r21, if_neg n10, e10, an_p1, o3 c1, o3 (ah_same (ah_new (ah_new h 3 (ac_O 6 [.null, .null, .int 0])) 10 (ac_I 10 (fun _ => 0))) h.1 _), ah_put2, Option.bind_some]
        generalize ah_put (ah_new (ah_new h 3 (ac_O 6 [.null, .null, .int 0])) 10 (ac_I 10 (fun _ => 0))) h.1 (ac_O 6 [.ref (ad 14 o' 0), .ref (h.1 + 1), .int 0]) = H at *
        have x0 := hv.x
        have sz := hv.szR
        have ou := hv.ou ho
        have hv0 := hv
        obtain ⟨ae, hv⟩ := hv
        have oun : (ah_new h 3 (ac_O 6 [.null, .null, .int 0])).2.2 (ad 9 o' 0) = h.2.2 (ad 9 o' 0) := an_ne (by have : ad 9 o' 0 < h.1 := (hv.1 9 o' 0 ⟨ho, rfl⟩).1; omega)
        obtain ⟨h', e, e2, v2⟩ := c_radd hv (o := o') rfl (by have := a11.1; omega) rfl (by show h.2.1 + 3 + 10 ≤ h.2.1 + 300; omega) N2 (va_up_self _ _ _) (by simp [va_up])
        have vz : CW P fx mem (K.1 + 11, K.2 + 400) (aR (u3 (jn ad ae) 4 0 0 e) (S.1 3 0 0) h.1) h' (sp_ra S o' (S.1 3 0 0)) := ⟨aR (u3 (jn ad ae) 4 0 0 e) (S.1 3 0 0) h.1, by rw [jn_self]; exact v2⟩
        refine ⟨h', ?_, aR (u3 (jn ad ae) 4 0 0 e) (S.1 3 0 0) h.1, rfl, vz.kup (by show K.1 + 11 ≤ K.1 + 100; omega) (by show K.2 + 400 ≤ K.2 + 10000; omega)⟩
        have lr : ∃ mc, h.2.2 (ad 3 0 0) = ac_O 0 [.int mc, .ref (if S.1 3 0 0 = 0 then P.1 else ae 4 0 0), .int (nI (S.1 3 0 0))] := hv.rl
        obtain ⟨mc, lr⟩ := lr
        have l0 : ad 3 0 0 < h.1 := (hv.1 3 0 0 ⟨rfl, rfl⟩).1
        have lH : am_cls H (ad 3 0 0) = some 0 := by
          refine cl_of (fs := [.int mc, .ref (if S.1 3 0 0 = 0 then P.1 else ae 4 0 0), .int (nI (S.1 3 0 0))]) ?_
          rw [N2.2.2.2 _ l0]
          exact lr
        have e2 : am_E P 122 0 [some (.ref (ad 3 0 0)), some (.ref h.1)] [] H = some (some (.int 1), h') := e2
        have x1 : h'.2.2 (ad 0 0 0) = ac_O 8 [.ref (ad 1 0 0), .ref (ad 3 0 0), .ref (ad 5 0 0), .ref (ad 7 0 0), .int (S.2 0 0 0), .int (S.2 0 1 0), .int (S.2 0 2 0), .int (S.2 0 3 0), .int (S.2 0 4 0)] := vz.x
        have s1 : am_E P 118 0 [some (.ref (ad 3 0 0))] [] h' = some (some (.int (nI (S.1 3 0 0 + 1))), h') ∧ am_cls h' (ad 3 0 0) = some 0 := by
          have := vz.szR
          rw [show (sp_ra S o' (S.1 3 0 0)).1 3 0 0 = S.1 3 0 0 + 1 by simp [sp_ra, sN_1]] at this
          exact this
        rw [ou] at oun
        simp only [r47, o9 x0, if_true, ha, Option.bind_some, Option.toList, List.nil_append, List.cons_append, o10 ou, if_pos hs, sz, if_pos c3, o10 oun, ini, lH, e2, o9 x1, s1, nI_pred]
    · rw [if_pos hs]
      refine ⟨h, ?_, hv.z rfl⟩
      simp only [r47, o9 hv.x, if_true, ha, Option.bind_some, Option.toList, List.nil_append, List.cons_append, o10 (hv.ou ho), if_neg hs]
end CM2
