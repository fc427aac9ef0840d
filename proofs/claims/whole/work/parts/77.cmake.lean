/-! The class: outputs and readers are made. -/
theorem AJ.ext {L L' : Nat → Nat → Nat → Prop} {ad ad' : Nat → Nat → Nat → Nat} (hj : AJ L ad) (N : Nat → Nat → Nat → Prop) (off : Nat → Nat) (b q : Nat) (hL : ∀ k i j, L' k i j → ¬ N k i j → L k i j) (had : ∀ k i j, ¬ N k i j → ad' k i j = ad k i j) (hnew : ∀ k i j, N k i j → ad' k i j = q + off k ∧ off k < b) (hoff : ∀ k i j k' i' j', N k i j → N k' i' j' → off k = off k' → k = k' ∧ i = i' ∧ j = j') (hold : ∀ k i j, L k i j → ad k i j < q ∨ q + b ≤ ad k i j) : AJ L' ad' := by
  intro k i j k' i' j' hl hl' he
  by_cases h1 : N k i j
  · by_cases h2 : N k' i' j'
    · rw [(hnew k i j h1).1, (hnew k' i' j' h2).1] at he
      exact hoff k i j k' i' j' h1 h2 (by omega)
    · rw [(hnew k i j h1).1, had k' i' j' h2] at he
      have := hold k' i' j' (hL k' i' j' hl' h2)
      have := (hnew k i j h1).2
      omega
  · by_cases h2 : N k' i' j'
    · rw [had k i j h1, (hnew k' i' j' h2).1] at he
      have := hold k i j (hL k i j hl h1)
      have := (hnew k' i' j' h2).2
      omega
    · rw [had k i j h1, had k' i' j' h2] at he
      exact hj k i j k' i' j' (hL k i j hl h1) (hL k' i' j' hl' h2) he
theorem jn_self (ad : Nat → Nat → Nat → Nat) : jn ad ad = ad := by
  funext k i j
  unfold jn
  split <;> rfl
theorem q_keys_0 {S : sp} {o : Nat} : ∀ n, (∀ k, k < n → S.2 10 o k = -6) → q_keys S o n = 0 := by
  intro n
  induction n with
  | zero => intro _; rfl
  | succ n ih =>
    intro hh
    unfold q_keys
    rw [ih (fun k hk => hh k (by omega)), hh n (by omega)]
    rfl
/-- addresses with a new output's: from q on -/
def oF (k : Nat) : Nat := if k ≤ 12 then k - 9 else k - 10
def aO (ad : Nat → Nat → Nat → Nat) (no q : Nat) : Nat → Nat → Nat → Nat := fun k i j => if (9 ≤ k ∧ k ≤ 19 ∧ k ≠ 13) ∧ i = no ∧ j = 0 then q + oF k else ad k i j
def aR (ad : Nat → Nat → Nat → Nat) (nr q : Nat) : Nat → Nat → Nat → Nat := fun k i j => if (k = 21 ∨ k = 22) ∧ i = nr ∧ j = 0 then q + (k - 21) else ad k i j
section CMk
variable {P : Nat × Nat} {fx : Nat → Prop} {mem : Nat → am_C} {K : Nat × Nat} {ad ae : Nat → Nat → Nat → Nat} {h : am_H} {S : sp} {X c : Nat}
theorem SO.out {no q e : Nat} {x : Int32} (hno : S.1 0 0 0 = no) (h5 : S.1 5 no 0 = 0) (hrd : ∀ r, r < S.1 3 0 0 → S.1 7 r 0 < no) : SO P ad (aO (u3 ad 2 0 0 e) no q) S (sN (sV S 1 no 0 x) 0 0 0 (no + 1)) (fun k i j => k = 1 ∨ k = 2 ∨ ((9 ≤ k ∧ k ≤ 19 ∧ k ≠ 13) ∧ i = no ∧ j = 0)) := by
  have hA : ∀ k i j, k ≠ 2 → i ≠ no → aO (u3 ad 2 0 0 e) no q k i j = ad k i j := fun k i j hk hi => by
    unfold aO u3
    rw [if_neg (fun x => hi x.2.1), if_neg (fun x => hk x.1)]
  have e0 : (sN (sV S 1 no 0 x) 0 0 0 (no + 1)).1 0 0 0 = no + 1 := by simp [sN_1]
  have eV : ∀ i a, i ≠ no → (sN (sV S 1 no 0 x) 0 0 0 (no + 1)).2 1 i a = S.2 1 i a := fun i a hi => by simp [sN_2, sV_2, hi]
  intro k i j hl hN
  rcases k23 hl with rfl | rfl | rfl | rfl | rfl | rfl | rfl | rfl | rfl | rfl | rfl | rfl | rfl | rfl | rfl | rfl | rfl | rfl | rfl | rfl | rfl | rfl | rfl
  all_goals first
    | exact ⟨hl, rfl, fun c hc => hc⟩
    | exact ⟨hl, rfl, fun c hc => by refine ok22 ?_ ?_ ?_ ?_ hc <;> (intros; rfl)⟩
    | exact absurd (Or.inl rfl) hN
    | exact absurd (Or.inr (Or.inl rfl)) hN
    | skip
  · have hi : i ≠ no := fun x => hN (Or.inr (Or.inr ⟨by decide, x, hl.2⟩))
    have hl1 : i < no + 1 := hl.1
    refine ⟨⟨by omega, hl.2⟩, hA _ _ _ (by decide) hi, fun c hc => ?_⟩
    show c = ac_O 4 [.int (nI i), .int ((sN (sV S 1 no 0 x) 0 0 0 (no + 1)).2 1 i 0), .ref (aO (u3 ad 2 0 0 e) no q 10 i 0), .ref (aO (u3 ad 2 0 0 e) no q 11 i 0), .int (nI (S.1 4 i 0)), .ref (aO (u3 ad 2 0 0 e) no q 12 i 0), .int ((sN (sV S 1 no 0 x) 0 0 0 (no + 1)).2 1 i 1), .int ((sN (sV S 1 no 0 x) 0 0 0 (no + 1)).2 1 i 2), .ref (aO (u3 ad 2 0 0 e) no q 14 i 0), .ref (aO (u3 ad 2 0 0 e) no q 16 i 0)]
    rw [eV i 0 hi, eV i 1 hi, eV i 2 hi, hA _ _ _ (by decide) hi, hA _ _ _ (by decide) hi, hA _ _ _ (by decide) hi, hA _ _ _ (by decide) hi, hA _ _ _ (by decide) hi]
    exact hc
  · have hi : i ≠ no := fun x => hN (Or.inr (Or.inr ⟨by decide, x, hl.2⟩))
    have hl1 : i < no + 1 := hl.1
    exact ⟨⟨by omega, hl.2⟩, hA _ _ _ (by decide) hi, fun c hc => hc⟩
  · have hi : i ≠ no := fun x => hN (Or.inr (Or.inr ⟨by decide, x, hl.2⟩))
    have hl1 : i < no + 1 := hl.1
    exact ⟨⟨by omega, hl.2⟩, hA _ _ _ (by decide) hi, fun c hc => hc⟩
  · have hi : i ≠ no := fun x => hN (Or.inr (Or.inr ⟨by decide, x, hl.2⟩))
    have hl1 : i < no + 1 := hl.1
    exact ⟨⟨by omega, hl.2⟩, hA _ _ _ (by decide) hi, fun c hc => hc⟩
  · have hl1 : i < no + 1 := hl.1.1
    have hl2 : 0 < S.1 5 i 0 := hl.2
    have hi : i ≠ no := fun x => by rw [x, h5] at hl2; omega
    exact ⟨⟨⟨by omega, hl.1.2⟩, hl2⟩, rfl, fun c hc => hc⟩
  · have hi : i ≠ no := fun x => hN (Or.inr (Or.inr ⟨by decide, x, hl.2⟩))
    have hl1 : i < no + 1 := hl.1
    refine ⟨⟨by omega, hl.2⟩, hA _ _ _ (by decide) hi, fun c hc => ?_⟩
    show c = ac_O 3 [.int (nI 4), .ref (aO (u3 ad 2 0 0 e) no q 15 i 0), .int (nI (S.1 6 i 0))]
    rw [hA _ _ _ (by decide) hi]
    exact hc
  · have hi : i ≠ no := fun x => hN (Or.inr (Or.inr ⟨by decide, x, hl.2⟩))
    have hl1 : i < no + 1 := hl.1
    exact ⟨⟨by omega, hl.2⟩, hA _ _ _ (by decide) hi, fun c hc => hc⟩
  · have hi : i ≠ no := fun x => hN (Or.inr (Or.inr ⟨by decide, x, hl.2⟩))
    have hl1 : i < no + 1 := hl.1
    refine ⟨⟨by omega, hl.2⟩, hA _ _ _ (by decide) hi, fun c hc => ?_⟩
    show c = ac_O 7 [.ref (aO (u3 ad 2 0 0 e) no q 17 i 0), .ref (aO (u3 ad 2 0 0 e) no q 18 i 0), .ref (aO (u3 ad 2 0 0 e) no q 19 i 0), .int (nI (q_keys S i 10))]
    rw [hA _ _ _ (by decide) hi, hA _ _ _ (by decide) hi, hA _ _ _ (by decide) hi]
    exact hc
  · have hi : i ≠ no := fun x => hN (Or.inr (Or.inr ⟨by decide, x, hl.2⟩))
    have hl1 : i < no + 1 := hl.1
    exact ⟨⟨by omega, hl.2⟩, hA _ _ _ (by decide) hi, fun c hc => hc⟩
  · have hi : i ≠ no := fun x => hN (Or.inr (Or.inr ⟨by decide, x, hl.2⟩))
    have hl1 : i < no + 1 := hl.1
    refine ⟨⟨by omega, hl.2⟩, hA _ _ _ (by decide) hi, fun c hc => ⟨fun hz => hc.1 ?_, hc.2⟩⟩
    rw [eV i 0 hi] at hz
    exact hz
  · have hi : i ≠ no := fun x => hN (Or.inr (Or.inr ⟨by decide, x, hl.2⟩))
    have hl1 : i < no + 1 := hl.1
    exact ⟨⟨by omega, hl.2⟩, hA _ _ _ (by decide) hi, fun c hc => hc⟩
  · have hl1 : i < no + 1 := hl.1
    have hl2 : j < S.1 5 i 0 := hl.2
    have hi : i ≠ no := fun x => by rw [x, h5] at hl2; omega
    exact ⟨⟨by omega, hl2⟩, rfl, fun c hc => hc⟩
  · refine ⟨hl, rfl, fun c hc => ?_⟩
    show c = ac_O 6 [.ref (aO (u3 ad 2 0 0 e) no q 14 (S.1 7 i 0) 0), .ref (ad 22 i 0), .int (nI (S.1 8 i 0))]
    rw [hA _ _ _ (by decide) (by have := hrd i hl.1; omega)]
    exact hc
/-- a new output goes into the list -/
theorem c_oadd (hv : CV P fx mem K ad h S) {no q s : Nat} {g : Nat → am_C} {H : am_H} {x : Int32} (hno : S.1 0 0 0 = no) (h3 : no < 3) (hq : h.1 = q) (hs : s ≤ h.2.1 + 300) (hN : NO q s 9 g h.2.2 H)
    (hb : S.1 4 no 0 = 0 ∧ S.1 5 no 0 = 0 ∧ S.1 6 no 0 = 0 ∧ S.2 1 no 1 = 0 ∧ S.2 1 no 2 = 0 ∧ ∀ k, k < 10 → S.2 10 no k = -6 ∧ S.2 11 no k = 0 ∧ S.2 12 no k = 0) (hrd : ∀ r, r < S.1 3 0 0 → S.1 7 r 0 < no)
    (g0 : g 0 = ac_O 4 [.int (nI no), .int x, .ref (q + 1), .ref (q + 2), .int 0, .ref (q + 3), .int 0, .int 0, .ref (q + 4), .ref (q + 6)]) (g1 : g 1 = ac_I 20 (fun _ => 0)) (g2 : g 2 = ac_I 20 (fun _ => 0)) (g3 : g 3 = ac_O 0 [.int 0, .ref P.1, .int 0]) (g4 : g 4 = ac_O 3 [.int (nI 4), .ref (q + 5), .int 0]) (g5 : g 5 = ac_I 128 (fun _ => 0)) (g6 : g 6 = ac_O 7 [.ref (q + 7), .ref (q + 8), .ref (q + 9), .int 0]) (g7 : g 7 = ac_I 10 (fun _ => 0)) (g8 : ∃ f, g 8 = ac_I 10 f ∧ ∀ k, k < 10 → f k = -6) (g9 : g 9 = ac_I 10 (fun _ => 0)) :
    ∃ h' e, am_E P 122 0 [some (.ref (ad 1 0 0)), some (.ref q)] [] H = some (some (.int 1), h') ∧ CV P fx mem (K.1 + 11, K.2 + 400) (aO (u3 ad 2 0 0 e) no q) h' (sN (sV S 1 no 0 x) 0 0 0 (no + 1)) := by
  obtain ⟨n1, n2, n3, n4⟩ := hN
  have r1 := hv.1 1 0 0 ⟨rfl, rfl⟩
  have rP := hv.2.2.1 P.1 hv.2.2.2.1
  have hE : h.2.2 P.1 = ac_E := rP.2.trans hv.2.2.2.2.1
  have hlP : ad 1 0 0 ≠ P.1 := fun e => r1.2.1 (e ▸ hv.2.2.2.1)
  obtain ⟨mc, hl⟩ := hv.ol
  obtain ⟨e0, cap, gg, hl0, hlt0, hle0, hcase, hg0⟩ : ∃ (e0 cap : Nat) (gg : Nat → Option Nat), h.2.2 (ad 1 0 0) = ac_O 0 [.int mc, .ref e0, .int (nI no)] ∧ e0 < h.1 ∧ ad 1 0 0 ≠ e0 ∧ ((no = 0 ∧ e0 = P.1 ∧ h.2.2 e0 = ac_E) ∨ (0 < no ∧ no ≤ cap ∧ cap < 100000 ∧ h.2.2 e0 = ac_R cap gg)) ∧ (0 < no → e0 = ad 2 0 0 ∧ ∀ i, i < no → gg i = some (ad 9 i 0)) := by
    rw [hno] at hl
    by_cases h0 : no = 0
    · rw [if_pos h0] at hl
      exact ⟨P.1, 0, fun _ => none, hl, rP.1, hlP, Or.inl ⟨h0, rfl, hE⟩, fun h1 => absurd h0 (by omega)⟩
    · rw [if_neg h0] at hl
      obtain ⟨b1, b2, cap, gg, b3, b4, b5, b6⟩ := hv.1 2 0 0 ⟨⟨rfl, rfl⟩, by omega⟩
      rw [hno] at b4 b6
      exact ⟨ad 2 0 0, cap, gg, hl, b1, fun e => absurd (hv.2.1 1 0 0 2 0 0 ⟨rfl, rfl⟩ ⟨⟨rfl, rfl⟩, by omega⟩ e).1 (by decide), Or.inr ⟨by omega, b4, b5, b3⟩, fun _ => ⟨rfl, b6⟩⟩
  have hH0 : H.2.2 q = ac_O 4 [.int (nI no), .int x, .ref (q + 1), .ref (q + 2), .int 0, .ref (q + 3), .int 0, .int 0, .ref (q + 4), .ref (q + 6)] := (n3 0 (by decide)).trans g0
  have hlH : H.2.2 (ad 1 0 0) = ac_O 0 [.int mc, .ref e0, .int (nI no)] := by rw [n4 _ (by have := r1.1; omega)]; exact hl0
  have hcH : (no = 0 ∧ e0 = P.1 ∧ H.2.2 e0 = ac_E) ∨ (0 < no ∧ no ≤ cap ∧ cap < 100000 ∧ H.2.2 e0 = ac_R cap gg) := by rw [n4 e0 (by omega)]; exact hcase
  obtain ⟨h', e', cap', g', mc', e1, e2, e3, e4, e5, e6, e7, e8, e9⟩ := c_add P hlH (by have := r1.1; omega) (by omega) hle0 hH0 (by decide) (by omega) (by have := r1.1; omega) (by omega) hcH
  have hne : ∀ k i j, lv S k i j → ¬ (k = 2 ∧ i = 0 ∧ j = 0) → ad k i j ≠ e' := by
    intro k i j hl hn e
    rcases e8 with ⟨b, b0, _⟩ | ⟨b, _⟩
    · rw [b, (hg0 b0).1] at e
      exact hn (hv.2.1 k i j 2 0 0 hl ⟨⟨rfl, rfl⟩, by omega⟩ e)
    · have := (hv.1 k i j hl).1
      omega
  have hqe : e' < q ∨ q + 10 ≤ e' := by
    rcases e8 with ⟨b, b0, _⟩ | ⟨b, _⟩ <;> omega
  have hfe : ¬ fx e' := by
    rcases e8 with ⟨b, b0, _⟩ | ⟨b, _⟩
    · rw [b, (hg0 b0).1]
      exact (hv.1 2 0 0 ⟨⟨rfl, rfl⟩, by omega⟩).2.1
    · intro x
      have := (hv.2.2.1 _ x).1
      omega
  have hup : q + 10 ≤ h'.1 ∧ h'.1 ≤ q + 11 ∧ h'.2.1 ≤ h.2.1 + 400 := by
    rcases e8 with ⟨_, _, b1, b2⟩ | ⟨_, b1, b2⟩ <;> omega
  have hqf : ∀ i, ¬ fx (q + i) := fun i x => by have := (hv.2.2.1 _ x).1; omega
  have cell : ∀ i, i ≤ 9 → h'.2.2 (q + i) = g i := fun i hi => by
    rw [e9 (q + i) (by have := r1.1; omega) (by omega)]
    exact n3 i hi
  have old : ∀ a, a < q → a ≠ ad 1 0 0 → a ≠ e' → h'.2.2 a = h.2.2 a := fun a ha h1 h2 => by rw [e9 a h1 h2]; exact n4 a ha
  have e0' : (sN (sV S 1 no 0 x) 0 0 0 (no + 1)).1 0 0 0 = no + 1 := by simp [sN_1]
  have hA : ∀ k, 9 ≤ k ∧ k ≤ 19 ∧ k ≠ 13 → aO (u3 ad 2 0 0 e') no q k no 0 = q + oF k := fun k hk => by
    unfold aO
    rw [if_pos ⟨hk, rfl, rfl⟩]
  refine ⟨h', e', e1, hv.upd (fun k i j => k = 1 ∨ k = 2 ∨ ((9 ≤ k ∧ k ≤ 19 ∧ k ≠ 13) ∧ i = no ∧ j = 0)) (SO.out hno hb.2.1 hrd) (by omega) (fun k i j h1 h2 hN => ?_) (fun k i j h1 _ _ => (hv.1 k i j h1).2.1) (fun k i j h1 hN => ?_) ?_ (fun a ha => ?_) hv.2.2.2.1 hv.2.2.2.2.1 ?_ ?_⟩
  · refine old _ (by have := (hv.1 k i j h1).1; omega) (fun e => hN (Or.inl (hv.2.1 k i j 1 0 0 h1 ⟨rfl, rfl⟩ e).1)) (hne k i j h1 (fun x => hN (Or.inr (Or.inl x.1))))
  · rcases hN with rfl | rfl | ⟨hk, rfl, rfl⟩
    · obtain ⟨rfl, rfl⟩ := h1
      refine ⟨by show ad 1 0 0 < h'.1; have := r1.1; omega, r1.2.1, mc', ?_⟩
      show h'.2.2 (ad 1 0 0) = ac_O 0 [.int mc', .ref (if (sN (sV S 1 no 0 x) 0 0 0 (no + 1)).1 0 0 0 = 0 then P.1 else e'), .int (nI ((sN (sV S 1 no 0 x) 0 0 0 (no + 1)).1 0 0 0))]
      rw [e0', if_neg (by omega)]
      exact e2
    · obtain ⟨rfl, rfl⟩ := h1.1
      refine ⟨?_, hfe, cap', g', e3, by rw [e0']; exact e4, e5, fun i hi => ?_⟩
      · show e' < h'.1
        rcases e8 with ⟨b, _, b1, _⟩ | ⟨b, b1, _⟩ <;> omega
      · rw [e0'] at hi
        by_cases hin : i = no
        · rw [hin, hA 9 (by decide)]
          exact e7
        · rw [e6 i (by omega), (hg0 (by omega)).2 i (by omega)]
          unfold aO u3
          rw [if_neg (fun x => hin x.2.1), if_neg (fun x => absurd x.1 (by decide))]
    · have hA9 := hA k hk
      have hof : oF k ≤ 9 := by unfold oF; split <;> omega
      rw [hA9]
      refine ⟨by omega, hqf _, ?_⟩
      rw [cell _ hof]
      have hkk : k = 9 ∨ k = 10 ∨ k = 11 ∨ k = 12 ∨ k = 14 ∨ k = 15 ∨ k = 16 ∨ k = 17 ∨ k = 18 ∨ k = 19 := by omega
      obtain ⟨b4, b5, b6, bt, bf, bk⟩ := hb
      rcases hkk with rfl | rfl | rfl | rfl | rfl | rfl | rfl | rfl | rfl | rfl
      · show g 0 = ac_O 4 [.int (nI i), .int ((sN (sV S 1 i 0 x) 0 0 0 (i + 1)).2 1 i 0), .ref (aO (u3 ad 2 0 0 e') i q 10 i 0), .ref (aO (u3 ad 2 0 0 e') i q 11 i 0), .int (nI (S.1 4 i 0)), .ref (aO (u3 ad 2 0 0 e') i q 12 i 0), .int ((sN (sV S 1 i 0 x) 0 0 0 (i + 1)).2 1 i 1), .int ((sN (sV S 1 i 0 x) 0 0 0 (i + 1)).2 1 i 2), .ref (aO (u3 ad 2 0 0 e') i q 14 i 0), .ref (aO (u3 ad 2 0 0 e') i q 16 i 0)]
        rw [hA 10 (by decide), hA 11 (by decide), hA 12 (by decide), hA 14 (by decide), hA 16 (by decide), b4, g0]
        simp [sN_2, sV_2, bt, bf, oF]
        rfl
      · exact ⟨_, g1, fun k hk => by rw [show (sN (sV S 1 i 0 x) 0 0 0 (i + 1)).1 4 i 0 = S.1 4 i 0 from rfl, b4] at hk; omega⟩
      · exact ⟨_, g2, fun k hk => by rw [show (sN (sV S 1 i 0 x) 0 0 0 (i + 1)).1 4 i 0 = S.1 4 i 0 from rfl, b4] at hk; omega⟩
      · refine ⟨0, ?_⟩
        rw [show (sN (sV S 1 i 0 x) 0 0 0 (i + 1)).1 5 i 0 = S.1 5 i 0 from rfl, b5, if_pos rfl]
        exact g3
      · show g 4 = ac_O 3 [.int (nI 4), .ref (aO (u3 ad 2 0 0 e') i q 15 i 0), .int (nI (S.1 6 i 0))]
        rw [hA 15 (by decide), b6]
        exact g4
      · refine ⟨128, _, g5, ?_, by decide, fun n hn => ?_⟩
        · rw [show (sN (sV S 1 i 0 x) 0 0 0 (i + 1)).1 6 i 0 = S.1 6 i 0 from rfl, b6]; decide
        · rw [show (sN (sV S 1 i 0 x) 0 0 0 (i + 1)).1 6 i 0 = S.1 6 i 0 from rfl, b6] at hn; omega
      · show g 6 = ac_O 7 [.ref (aO (u3 ad 2 0 0 e') i q 17 i 0), .ref (aO (u3 ad 2 0 0 e') i q 18 i 0), .ref (aO (u3 ad 2 0 0 e') i q 19 i 0), .int (nI (q_keys (sN (sV S 1 i 0 x) 0 0 0 (i + 1)) i 10))]
        rw [hA 17 (by decide), hA 18 (by decide), hA 19 (by decide), q_keys_0 (S := sN (sV S 1 i 0 x) 0 0 0 (i + 1)) 10 (fun k hk => (bk k hk).1)]
        exact g6
      · exact ⟨_, g7, fun k hk => (bk k hk).2.2.symm⟩
      · obtain ⟨f, f1, f2⟩ := g8
        exact ⟨fun _ k hk => (bk k hk).1, f, f1, fun k hk => by rw [f2 k hk]; exact (bk k hk).1.symm⟩
      · exact ⟨_, g9, fun k hk => (bk k hk).2.1.symm⟩
  · have s1 := AJ.mv (L := lv S) (L' := fun k i j => lv S k i j ∨ (k = 2 ∧ i = 0 ∧ j = 0)) hv.2.1 2 0 0 e' (fun k i j hh => hh) hne
    refine AJ.ext s1 (fun k i j => (9 ≤ k ∧ k ≤ 19 ∧ k ≠ 13) ∧ i = no ∧ j = 0) oF 10 q (fun k i j hh hn => ?_) (fun k i j hn => ?_) (fun k i j hn => ⟨?_, ?_⟩) (fun k i j k' i' j' h1 h2 he => ?_) (fun k i j hh => ?_)
    · by_cases h2 : k = 2 ∧ i = 0 ∧ j = 0
      · exact Or.inr h2
      · by_cases hN : k = 1 ∨ k = 2 ∨ ((9 ≤ k ∧ k ≤ 19 ∧ k ≠ 13) ∧ i = no ∧ j = 0)
        · rcases hN with rfl | rfl | x
          · exact Or.inl hh
          · exact absurd ⟨rfl, hh.1.1, hh.1.2⟩ h2
          · exact absurd x hn
        · exact Or.inl (SO.out (P := P) (ad := ad) (e := e') (q := q) (x := x) hno hb.2.1 hrd k i j hh hN).1
    · unfold aO
      rw [if_neg hn]
    · unfold aO
      rw [if_pos hn]
    · unfold oF
      split <;> omega
    · unfold oF at he
      split at he <;> split at he <;> omega
    · unfold u3
      split
      · exact hqe
      · rename_i hz
        rcases hh with hh | hh
        · exact Or.inl (by have := (hv.1 k i j hh).1; omega)
        · exact absurd hh hz
  · have hx := hv.2.2.1 a ha
    refine ⟨by omega, ?_⟩
    rw [old a (by omega) (fun e => r1.2.1 (e ▸ ha)) (fun e => hfe (e ▸ ha))]
    exact hx.2
  · have := hv.2.2.2.2.2.1
    show h'.1 ≤ K.1 + 11 + w1 S
    omega
  · have := hv.2.2.2.2.2.2
    show h'.2.1 ≤ K.2 + 400 + w2 S
    omega
end CMk
