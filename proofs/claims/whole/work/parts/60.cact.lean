/-! The class: acts and records. -/
theorem q_cnt_cg {S S' : sp} {o : Nat} {k : Int32} : ∀ n, (∀ i, i < n → S'.2 6 o i = S.2 6 o i) → q_cnt S' o k n = q_cnt S o k n := by
  intro n
  induction n with
  | zero => intro _; rfl
  | succ n ih =>
    intro hh
    unfold q_cnt
    rw [ih (fun i hi => hh i (by omega)), hh n (by omega)]
theorem q_keys_cg {S S' : sp} {o : Nat} : ∀ n, (∀ i, i < n → S'.2 10 o i = S.2 10 o i) → q_keys S' o n = q_keys S o n := by
  intro n
  induction n with
  | zero => intro _; rfl
  | succ n ih =>
    intro hh
    unfold q_keys
    rw [ih (fun i hi => hh i (by omega)), hh n (by omega)]
section CA
variable {P : Nat × Nat} {fx : Nat → Prop} {mem : Nat → am_C} {K : Nat × Nat} {ad ad' : Nat → Nat → Nat → Nat} {h : am_H} {S S' : sp}
theorem ok22 {i j : Nat} {c : am_C} (h6 : ∀ o n, S'.2 6 o n = S.2 6 o n) (h7 : ∀ r, S'.1 7 r 0 = S.1 7 r 0) (h8 : ∀ r, S'.1 8 r 0 = S.1 8 r 0) (hl : ∀ o, S'.1 6 o 0 = S.1 6 o 0) (hc : okc P ad S 22 i j c) : okc P ad' S' 22 i j c := by
  obtain ⟨b1, f, b2, b3⟩ := hc
  refine ⟨?_, f, b2, fun k hk => ?_⟩
  · rw [h8, h7, hl]; exact b1
  · rw [h8, h7, q_cnt_cg _ (fun i _ => h6 _ i)]; exact b3 k hk
/-- a value of the class's own object -/
theorem SO.x (a : Nat) (ha : a ≠ 5) (v : Int32) : SO P ad ad S (sV S 0 a 0 v) (fun k i j => k = 0 ∧ i = 0 ∧ j = 0) := by
  intro k i j hl hN
  rcases k23 hl with rfl | rfl | rfl | rfl | rfl | rfl | rfl | rfl | rfl | rfl | rfl | rfl | rfl | rfl | rfl | rfl | rfl | rfl | rfl | rfl | rfl | rfl | rfl
  · exact absurd ⟨rfl, hl.1, hl.2⟩ hN
  all_goals first
    | exact ⟨hl, rfl, fun c hc => hc⟩
    | exact ⟨hl, rfl, fun c hc => by refine ok22 ?_ ?_ ?_ ?_ hc <;> (intros; rfl)⟩
    | skip
  refine ⟨hl, rfl, fun c hc => ?_⟩
  show c = ac_O 1 [.ref (ad 8 0 0), .int (nI (S.1 2 0 0)), .int ((sV S 0 a 0 v).2 0 5 0)]
  rw [sV_2, if_neg (by omega)]
  exact hc
/-- open rows of an output: fewer -/
theorem SO.n4 {o v : Nat} (hv : v ≤ S.1 4 o 0) : SO P ad ad S (sN S 4 o 0 v) (fun k i j => k = 9 ∧ i = o ∧ j = 0) := by
  intro k i j hl hN
  rcases k23 hl with rfl | rfl | rfl | rfl | rfl | rfl | rfl | rfl | rfl | rfl | rfl | rfl | rfl | rfl | rfl | rfl | rfl | rfl | rfl | rfl | rfl | rfl | rfl
  all_goals first
    | exact ⟨hl, rfl, fun c hc => hc⟩
    | exact ⟨hl, rfl, fun c hc => by refine ok22 ?_ ?_ ?_ ?_ hc <;> (intros; rfl)⟩
    | skip
  · have hi : ¬ i = o := fun e => hN ⟨rfl, e, hl.2⟩
    refine ⟨hl, rfl, fun c hc => ?_⟩
    show c = ac_O 4 [.int (nI i), .int (S.2 1 i 0), .ref (ad 10 i 0), .ref (ad 11 i 0), .int (nI ((sN S 4 o 0 v).1 4 i 0)), .ref (ad 12 i 0), .int (S.2 1 i 1), .int (S.2 1 i 2), .ref (ad 14 i 0), .ref (ad 16 i 0)]
    rw [sN_1, if_neg (by omega)]
    exact hc
  · refine ⟨hl, rfl, fun c hc => ?_⟩
    obtain ⟨f, b1, b2⟩ := hc
    refine ⟨f, b1, fun k hk => b2 k ?_⟩
    rw [sN_1] at hk
    split at hk
    · rename_i e; rw [e.2.1]; omega
    · exact hk
  · refine ⟨hl, rfl, fun c hc => ?_⟩
    obtain ⟨f, b1, b2⟩ := hc
    refine ⟨f, b1, fun k hk => b2 k ?_⟩
    rw [sN_1] at hk
    split at hk
    · rename_i e; rw [e.2.1]; omega
    · exact hk
theorem CV.cong (hv : CV P fx mem K ad h S) (hso : SO P ad ad S S' (fun _ _ _ => False)) (hb1 : w1 S' = w1 S) (hb2 : w2 S' = w2 S) : CV P fx mem K ad h S' :=
  hv.upd (fun _ _ _ => False) hso (Nat.le_refl _) (fun _ _ _ _ _ _ => rfl) (fun a b d h1 _ _ => (hv.1 a b d h1).2.1) (fun _ _ _ _ hn => hn.elim) (fun a b d a' b' d' h1 h2 he => hv.2.1 a b d a' b' d' (hso a b d h1 id).1 (hso a' b' d' h2 id).1 he) hv.2.2.1 hv.2.2.2.1 hv.2.2.2.2.1 (by rw [hb1]; exact hv.2.2.2.2.2.1) (by rw [hb2]; exact hv.2.2.2.2.2.2)
theorem CW.cong (hv : CW P fx mem K ad h S) (hso : ∀ ad, SO P ad ad S S' (fun _ _ _ => False)) (hb1 : w1 S' = w1 S) (hb2 : w2 S' = w2 S) : CW P fx mem K ad h S' := by
  obtain ⟨ae, hv⟩ := hv
  exact ⟨ae, hv.cong (hso _) hb1 hb2⟩
theorem sE_n4 (S : sp) (o v : Nat) : sE (sN S 4 o 0 v) = sE S := by
  unfold sE sN u3
  refine Prod.ext (funext fun a => funext fun b => funext fun c => ?_) rfl
  show (if a = 4 then 0 else if a = 4 ∧ b = o ∧ c = 0 then v else S.1 a b c) = if a = 4 then 0 else S.1 a b c
  by_cases ha : a = 4
  · simp [ha]
  · simp [ha]
/-- every output's open rows are none -/
theorem SO.e4 (h0 : ∀ o, o < S.1 0 0 0 → S.1 4 o 0 = 0) : SO P ad ad S (sE S) (fun _ _ _ => False) := by
  intro k i j hl hN
  rcases k23 hl with rfl | rfl | rfl | rfl | rfl | rfl | rfl | rfl | rfl | rfl | rfl | rfl | rfl | rfl | rfl | rfl | rfl | rfl | rfl | rfl | rfl | rfl | rfl
  all_goals first
    | exact ⟨hl, rfl, fun c hc => hc⟩
    | exact ⟨hl, rfl, fun c hc => by refine ok22 ?_ ?_ ?_ ?_ hc <;> (intros; rfl)⟩
    | skip
  · refine ⟨hl, rfl, fun c hc => ?_⟩
    have : c = ac_O 4 [.int (nI i), .int (S.2 1 i 0), .ref (ad 10 i 0), .ref (ad 11 i 0), .int (nI (S.1 4 i 0)), .ref (ad 12 i 0), .int (S.2 1 i 1), .int (S.2 1 i 2), .ref (ad 14 i 0), .ref (ad 16 i 0)] := hc
    rw [h0 i hl.1] at this
    exact this
  · refine ⟨hl, rfl, fun c hc => ?_⟩
    obtain ⟨f, b1, b2⟩ := hc
    exact ⟨f, b1, fun k hk => absurd hk (Nat.not_lt_zero k)⟩
  · refine ⟨hl, rfl, fun c hc => ?_⟩
    obtain ⟨f, b1, b2⟩ := hc
    exact ⟨f, b1, fun k hk => absurd hk (Nat.not_lt_zero k)⟩
theorem c_empty (hv : CW P fx mem K ad h S) (h3 : S.1 0 0 0 ≤ 3) : ∃ h', am_E P 59 0 [some (.ref (ad 0 0 0)), none] [] h = some (none, h') ∧ CW P fx mem K ad h' (sE S) := by
  have loop : ∀ k i (S : sp) h, S.1 0 0 0 ≤ 3 → i + k = S.1 0 0 0 → CW P fx mem K ad h S → (∀ o, o < i → S.1 4 o 0 = 0) → ∃ h', am_E P 59 2 [some (.ref (ad 0 0 0)), some (.int (nI i))] [] h = some (none, h') ∧ CW P fx mem K ad h' (sE S) := by
    intro k
    induction k with
    | zero =>
      intro i S h h3 hi hv h0
      refine ⟨h, ?_, hv.cong (fun _ => SO.e4 (fun o ho => h0 o (by omega))) rfl rfl⟩
      have c1 : nI (S.1 0 0 0) ≤ nI i := nI_le (by omega) (by omega)
      rw [hd59_2]
      simp only [r59, o9 hv.x, Option.bind_some, hv.szO, if_true, Option.toList, List.nil_append, List.cons_append, if_pos c1]
    | succ k ih =>
      intro i S h h3 hi hv h0
      have hi0 : i < S.1 0 0 0 := by omega
      have v1 := hv.put 9 i 0 (fun _ => rfl) ⟨hi0, rfl⟩ (S' := sN S 4 i 0 0) (fun _ => SO.n4 (Nat.zero_le _)) (c := ac_O 4 [.int (nI i), .int (S.2 1 i 0), .ref (ad 10 i 0), .ref (ad 11 i 0), .int 0, .ref (ad 12 i 0), .int (S.2 1 i 1), .int (S.2 1 i 2), .ref (ad 14 i 0), .ref (ad 16 i 0)]) (fun ae => by show _ = ac_O 4 [.int (nI i), .int (S.2 1 i 0), .ref (ad 10 i 0), .ref (ad 11 i 0), .int (nI ((sN S 4 i 0 0).1 4 i 0)), .ref (ad 12 i 0), .int (S.2 1 i 1), .int (S.2 1 i 2), .ref (ad 14 i 0), .ref (ad 16 i 0)]; rw [sN_1, if_pos ⟨rfl, rfl, rfl⟩]; rfl) rfl rfl
      obtain ⟨h', e1, e2⟩ := ih (i + 1) (sN S 4 i 0 0) _ h3 (by show i + 1 + k = S.1 0 0 0; omega) v1 (fun o ho => by
        rw [sN_1]
        split
        · rfl
        · exact h0 o (by omega))
      rw [sE_n4] at e2
      refine ⟨h', ?_, e2⟩
      have c1 : ¬ nI (S.1 0 0 0) ≤ nI i := nI_ge hi0 (by omega)
      rw [hd59_2]
      simp only [r59, o9 hv.x, Option.bind_some, hv.szO, if_true, Option.toList, List.nil_append, List.cons_append, if_neg c1, hv.getO hi0 h3, o10 (hv.ou hi0), nI_1]
      exact e1
  obtain ⟨h', e1, e2⟩ := loop (S.1 0 0 0) 0 S h h3 (by omega) hv (fun o ho => absurd ho (Nat.not_lt_zero o))
  refine ⟨h', ?_, e2⟩
  simp only [r59]
  exact e1
/-- mayAct -/
theorem c_act (hv : CW P fx mem K ad h S) (h3 : S.1 0 0 0 ≤ 3) : ∃ h', am_E P 58 0 [some (.ref (ad 0 0 0))] [] h = some (some (.int (if (sp_act S).1 = true then 1 else 0)), h') ∧ CW P fx mem K ad h' (sp_act S).2 := by
  have hx := hv.x
  by_cases h1 : S.2 0 3 0 = 1
  · have hact : sp_act S = (false, sE (sV (sV S 0 3 0 0) 0 2 0 1)) := by
      unfold sp_act
      rw [if_pos h1]
    rw [hact]
    have v1 := hv.put 0 0 0 (fun _ => rfl) ⟨rfl, rfl⟩ (S' := sV S 0 3 0 0) (fun _ => SO.x 3 (by decide) 0) (c := ac_O 8 [.ref (ad 1 0 0), .ref (ad 3 0 0), .ref (ad 5 0 0), .ref (ad 7 0 0), .int (S.2 0 0 0), .int (S.2 0 1 0), .int (S.2 0 2 0), .int 0, .int (S.2 0 4 0)]) (fun _ => rfl) rfl rfl
    have v2 := v1.put 0 0 0 (fun _ => rfl) ⟨rfl, rfl⟩ (S' := sV (sV S 0 3 0 0) 0 2 0 1) (fun _ => SO.x 2 (by decide) 1) (c := ac_O 8 [.ref (ad 1 0 0), .ref (ad 3 0 0), .ref (ad 5 0 0), .ref (ad 7 0 0), .int (S.2 0 0 0), .int (S.2 0 1 0), .int 1, .int 0, .int (S.2 0 4 0)]) (fun _ => rfl) rfl rfl
    obtain ⟨h', e1, e2⟩ := c_empty v2 h3
    refine ⟨h', ?_, e2⟩
    simp only [r58, o9 hx, Option.bind_some, if_pos h1, o9 (ah_same h (ad 0 0 0) _), or_true, if_true, e1, o9 v2.x, Option.toList, List.nil_append]
    simp
  · by_cases h2 : 1 < S.2 0 3 0
    · have hact : sp_act S = (true, sV (sV S 0 3 0 (S.2 0 3 0 - 1)) 0 4 0 (S.2 0 4 0 + 1)) := by
        unfold sp_act
        rw [if_neg h1, if_pos h2]
      rw [hact]
      have v1 := hv.put 0 0 0 (fun _ => rfl) ⟨rfl, rfl⟩ (S' := sV S 0 3 0 (S.2 0 3 0 - 1)) (fun _ => SO.x 3 (by decide) _) (c := ac_O 8 [.ref (ad 1 0 0), .ref (ad 3 0 0), .ref (ad 5 0 0), .ref (ad 7 0 0), .int (S.2 0 0 0), .int (S.2 0 1 0), .int (S.2 0 2 0), .int (S.2 0 3 0 - 1), .int (S.2 0 4 0)]) (fun _ => rfl) rfl rfl
      have v2 := v1.put 0 0 0 (fun _ => rfl) ⟨rfl, rfl⟩ (S' := sV (sV S 0 3 0 (S.2 0 3 0 - 1)) 0 4 0 (S.2 0 4 0 + 1)) (fun _ => SO.x 4 (by decide) _) (c := ac_O 8 [.ref (ad 1 0 0), .ref (ad 3 0 0), .ref (ad 5 0 0), .ref (ad 7 0 0), .int (S.2 0 0 0), .int (S.2 0 1 0), .int (S.2 0 2 0), .int (S.2 0 3 0 - 1), .int (S.2 0 4 0 + 1)]) (fun _ => rfl) rfl rfl
      refine ⟨_, ?_, v2⟩
      have h2' : ¬ S.2 0 3 0 ≤ 1 := Int32.not_le.mpr h2
      simp only [r58, o9 hx, Option.bind_some, if_neg h1, if_neg h2', o9 (ah_same h (ad 0 0 0) _), or_true, if_true]
    · have hact : sp_act S = (true, sV (sV S 0 3 0 (S.2 0 3 0)) 0 4 0 (S.2 0 4 0 + 1)) := by
        unfold sp_act
        rw [if_neg h1, if_neg h2]
      have e0 : sV S 0 3 0 (S.2 0 3 0) = S := by
        unfold sV u3
        refine Prod.ext rfl (funext fun a => funext fun b => funext fun c => ?_)
        show (if a = 0 ∧ b = 3 ∧ c = 0 then S.2 0 3 0 else S.2 a b c) = S.2 a b c
        split
        · rename_i e; rw [e.1, e.2.1, e.2.2]
        · rfl
      rw [hact, e0]
      have v2 := hv.put 0 0 0 (fun _ => rfl) ⟨rfl, rfl⟩ (S' := sV S 0 4 0 (S.2 0 4 0 + 1)) (fun _ => SO.x 4 (by decide) _) (c := ac_O 8 [.ref (ad 1 0 0), .ref (ad 3 0 0), .ref (ad 5 0 0), .ref (ad 7 0 0), .int (S.2 0 0 0), .int (S.2 0 1 0), .int (S.2 0 2 0), .int (S.2 0 3 0), .int (S.2 0 4 0 + 1)]) (fun _ => rfl) rfl rfl
      refine ⟨_, ?_, v2⟩
      have h2' : S.2 0 3 0 ≤ 1 := Int32.not_lt.mp h2
      simp only [r58, o9 hx, Option.bind_some, if_neg h1, if_pos h2', or_true, if_true]
end CA
section CP
variable {P : Nat × Nat} {fx : Nat → Prop} {mem : Nat → am_C} {K : Nat × Nat} {ad : Nat → Nat → Nat → Nat} {h h' : am_H} {S S' : sp}
/-- some cells anew -/
theorem CV.puts (hv : CV P fx mem K ad h S) (N : Nat → Nat → Nat → Prop) (hso : SO P ad ad S S' N) (hN : ∀ k i j, N k i j → lv S' k i j → lv S k i j) (h1 : h'.1 = h.1) (h2 : h'.2.1 = h.2.1) (hfr : ∀ a, (∀ k i j, N k i j → lv S k i j → a ≠ ad k i j) → h'.2.2 a = h.2.2 a) (hok : ∀ k i j, N k i j → lv S' k i j → okc P ad S' k i j (h'.2.2 (ad k i j))) (hb1 : w1 S' = w1 S) (hb2 : w2 S' = w2 S) : CV P fx mem K ad h' S' := by
  have hz : ∀ a b d, lv S' a b d → lv S a b d := fun a b d hq => by
    by_cases hn : N a b d
    · exact hN a b d hn hq
    · exact (hso a b d hq hn).1
  refine hv.upd N hso (by omega) (fun a b d g1 g2 hn => ?_) (fun a b d g1 _ _ => (hv.1 a b d g1).2.1) (fun a b d g1 hn => ?_) (fun a b d a' b' d' g1 g2 he => hv.2.1 a b d a' b' d' (hz a b d g1) (hz a' b' d' g2) he) (fun a ha => ?_) hv.2.2.2.1 hv.2.2.2.2.1 (by rw [hb1, h1]; exact hv.2.2.2.2.2.1) (by rw [hb2, h2]; exact hv.2.2.2.2.2.2)
  · refine hfr _ (fun k i j hk hl e => hn ?_)
    obtain ⟨rfl, rfl, rfl⟩ := hv.2.1 a b d k i j g1 hl e
    exact hk
  · have := hv.1 a b d (hz a b d g1)
    exact ⟨by omega, this.2.1, hok a b d hn g1⟩
  · have := hv.2.2.1 a ha
    refine ⟨by omega, ?_⟩
    rw [hfr a (fun k i j hk hl e => (hv.1 k i j hl).2.1 (e ▸ ha))]
    exact this.2
theorem CW.puts (hv : CW P fx mem K ad h S) (N : Nat → Nat → Nat → Prop) (hso : ∀ ad, SO P ad ad S S' N) (hst : ∀ k i j, N k i j → ∀ ae, jn ad ae k i j = ad k i j) (hN : ∀ k i j, N k i j → lv S' k i j → lv S k i j) (h1 : h'.1 = h.1) (h2 : h'.2.1 = h.2.1) (hfr : ∀ a, (∀ k i j, N k i j → lv S k i j → a ≠ ad k i j) → h'.2.2 a = h.2.2 a) (hok : ∀ k i j, N k i j → lv S' k i j → ∀ ae, okc P (jn ad ae) S' k i j (h'.2.2 (ad k i j))) (hb1 : w1 S' = w1 S) (hb2 : w2 S' = w2 S) : CW P fx mem K ad h' S' := by
  obtain ⟨ae, hv⟩ := hv
  refine ⟨ae, hv.puts N (hso _) hN h1 h2 (fun a ha => hfr a (fun k i j hk hl => ?_)) (fun k i j hk hl => ?_) hb1 hb2⟩
  · have := ha k i j hk hl
    rw [hst k i j hk ae] at this
    exact this
  · rw [hst k i j hk ae]
    exact hok k i j hk hl ae
theorem CW.ne (hv : CW P fx mem K ad h S) {k i j k' i' j' : Nat} (hl : lv S k i j) (hl' : lv S k' i' j') (h1 : ∀ ae, jn ad ae k i j = ad k i j) (h2 : ∀ ae, jn ad ae k' i' j' = ad k' i' j') (hne : ¬ (k = k' ∧ i = i' ∧ j = j')) : ad k i j ≠ ad k' i' j' := by
  obtain ⟨ae, hv⟩ := hv
  intro e
  rw [← h1 ae, ← h2 ae] at e
  exact hne (hv.2.1 k i j k' i' j' hl hl' e)
end CP
