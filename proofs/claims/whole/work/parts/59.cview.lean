/-! The class's memory against the pure state. A role k i j has an address ad k i j:
0 the class's object; 1 list of outputs, 2 its array; 3 list of readers, 4 its array; 5 disk, 6 its cells; 7 barriers, 8 their marks; 9 o an output, 10 o open keys, 11 o open values, 12 o list of parts, 13 o its array, 14 o lines, 15 o their cells, 16 o table, 17 o values, 18 o parts, 19 o places; 20 o p a part; 21 r a reader, 22 r its rows of each key. -/
def lv (S : sp) (k i j : Nat) : Prop := match k with
  | 0 => i = 0 ∧ j = 0 | 1 => i = 0 ∧ j = 0 | 2 => (i = 0 ∧ j = 0) ∧ 0 < S.1 0 0 0 | 3 => i = 0 ∧ j = 0 | 4 => (i = 0 ∧ j = 0) ∧ 0 < S.1 3 0 0
  | 5 => i = 0 ∧ j = 0 | 6 => i = 0 ∧ j = 0 | 7 => i = 0 ∧ j = 0 | 8 => i = 0 ∧ j = 0
  | 9 => i < S.1 0 0 0 ∧ j = 0 | 10 => i < S.1 0 0 0 ∧ j = 0 | 11 => i < S.1 0 0 0 ∧ j = 0 | 12 => i < S.1 0 0 0 ∧ j = 0
  | 13 => (i < S.1 0 0 0 ∧ j = 0) ∧ 0 < S.1 5 i 0
  | 14 => i < S.1 0 0 0 ∧ j = 0 | 15 => i < S.1 0 0 0 ∧ j = 0 | 16 => i < S.1 0 0 0 ∧ j = 0 | 17 => i < S.1 0 0 0 ∧ j = 0 | 18 => i < S.1 0 0 0 ∧ j = 0 | 19 => i < S.1 0 0 0 ∧ j = 0
  | 20 => i < S.1 0 0 0 ∧ j < S.1 5 i 0
  | 21 => i < S.1 3 0 0 ∧ j = 0 | 22 => i < S.1 3 0 0 ∧ j = 0
  | _ => False
def okc (P : Nat × Nat) (ad : Nat → Nat → Nat → Nat) (S : sp) (k i j : Nat) (c : am_C) : Prop := match k with
  | 0 => c = ac_O 8 [.ref (ad 1 0 0), .ref (ad 3 0 0), .ref (ad 5 0 0), .ref (ad 7 0 0), .int (S.2 0 0 0), .int (S.2 0 1 0), .int (S.2 0 2 0), .int (S.2 0 3 0), .int (S.2 0 4 0)]
  | 1 => ∃ mc, c = ac_O 0 [.int mc, .ref (if S.1 0 0 0 = 0 then P.1 else ad 2 0 0), .int (nI (S.1 0 0 0))]
  | 2 => ∃ cap g, c = ac_R cap g ∧ S.1 0 0 0 ≤ cap ∧ cap < 100000 ∧ ∀ i, i < S.1 0 0 0 → g i = some (ad 9 i 0)
  | 3 => ∃ mc, c = ac_O 0 [.int mc, .ref (if S.1 3 0 0 = 0 then P.1 else ad 4 0 0), .int (nI (S.1 3 0 0))]
  | 4 => ∃ cap g, c = ac_R cap g ∧ S.1 3 0 0 ≤ cap ∧ cap < 100000 ∧ ∀ i, i < S.1 3 0 0 → g i = some (ad 21 i 0)
  | 5 => c = ac_O 2 [.int (nI 5), .ref (ad 6 0 0), .int (nI (S.1 1 0 0))]
  | 6 => ∃ N f, c = ac_I N f ∧ S.1 1 0 0 * 5 ≤ N ∧ N ≤ 300000 ∧ ∀ i q, i < S.1 1 0 0 → q < 5 → f (i * 5 + q) = S.2 4 i q
  | 7 => c = ac_O 1 [.ref (ad 8 0 0), .int (nI (S.1 2 0 0)), .int (S.2 0 5 0)]
  | 8 => ∃ f, c = ac_I 200 f ∧ ∀ i, i < S.1 2 0 0 → f i = S.2 5 i 0
  | 9 => c = ac_O 4 [.int (nI i), .int (S.2 1 i 0), .ref (ad 10 i 0), .ref (ad 11 i 0), .int (nI (S.1 4 i 0)), .ref (ad 12 i 0), .int (S.2 1 i 1), .int (S.2 1 i 2), .ref (ad 14 i 0), .ref (ad 16 i 0)]
  | 10 => ∃ f, c = ac_I 20 f ∧ ∀ k, k < S.1 4 i 0 → f k = S.2 2 i k
  | 11 => ∃ f, c = ac_I 20 f ∧ ∀ k, k < S.1 4 i 0 → f k = S.2 3 i k
  | 12 => ∃ mc, c = ac_O 0 [.int mc, .ref (if S.1 5 i 0 = 0 then P.1 else ad 13 i 0), .int (nI (S.1 5 i 0))]
  | 13 => ∃ cap g, c = ac_R cap g ∧ S.1 5 i 0 ≤ cap ∧ cap < 100000 ∧ ∀ p, p < S.1 5 i 0 → g p = some (ad 20 i p)
  | 14 => c = ac_O 3 [.int (nI 4), .ref (ad 15 i 0), .int (nI (S.1 6 i 0))]
  | 15 => ∃ N f, c = ac_I N f ∧ S.1 6 i 0 * 4 ≤ N ∧ N ≤ 300000 ∧ ∀ n, n < S.1 6 i 0 → f (n * 4) = S.2 6 i n ∧ f (n * 4 + 1) = S.2 7 i n ∧ f (n * 4 + 2) = S.2 8 i n ∧ f (n * 4 + 3) = S.2 9 i n
  | 16 => c = ac_O 7 [.ref (ad 17 i 0), .ref (ad 18 i 0), .ref (ad 19 i 0), .int (nI (q_keys S i 10))]
  | 17 => ∃ f, c = ac_I 10 f ∧ ∀ k, k < 10 → f k = S.2 12 i k
  | 18 => (S.2 1 i 0 = 0 → ∀ k, k < 10 → S.2 10 i k = -6) ∧ ∃ f, c = ac_I 10 f ∧ ∀ k, k < 10 → f k = S.2 10 i k
  | 19 => ∃ f, c = ac_I 10 f ∧ ∀ k, k < 10 → f k = S.2 11 i k
  | 20 => ∃ x y, c = ac_O 5 [.int (nI j), .int (nI (S.1 9 i j)), .int (nI (S.1 10 i j)), .int (if S.1 11 i j = 0 then -6 else S.2 13 i j), .int (nI (S.1 11 i j)), .int x, .int y]
  | 21 => c = ac_O 6 [.ref (ad 14 (S.1 7 i 0) 0), .ref (ad 22 i 0), .int (nI (S.1 8 i 0))]
  | 22 => S.1 8 i 0 ≤ S.1 6 (S.1 7 i 0) 0 ∧ ∃ f, c = ac_I 10 f ∧ ∀ k, k < 10 → f k = nI (q_cnt S (S.1 7 i 0) (nI k) (S.1 8 i 0))
  | _ => False
def w1 (S : sp) : Nat := S.1 1 0 0 + S.1 6 0 0 + S.1 6 1 0 + S.1 6 2 0
def sq (n : Nat) : Nat := 10 * ((n + 1) * (n + 1))
def w2 (S : sp) : Nat := sq (S.1 1 0 0) + sq (S.1 6 0 0) + sq (S.1 6 1 0) + sq (S.1 6 2 0)
/-- fx: addresses that the class leaves alone, mem: what is there; K: room that was given -/
def CV (P : Nat × Nat) (fx : Nat → Prop) (mem : Nat → am_C) (K : Nat × Nat) (ad : Nat → Nat → Nat → Nat) (h : am_H) (S : sp) : Prop :=
  (∀ k i j, lv S k i j → ad k i j < h.1 ∧ ¬ fx (ad k i j) ∧ okc P ad S k i j (h.2.2 (ad k i j))) ∧
  (∀ k i j k' i' j', lv S k i j → lv S k' i' j' → ad k i j = ad k' i' j' → k = k' ∧ i = i' ∧ j = j') ∧
  (∀ a, fx a → a < h.1 ∧ h.2.2 a = mem a) ∧ fx P.1 ∧ mem P.1 = ac_E ∧ h.1 ≤ K.1 + w1 S ∧ h.2.1 ≤ K.2 + w2 S
theorem k23 {S : sp} {k i j : Nat} (h : lv S k i j) : k = 0 ∨ k = 1 ∨ k = 2 ∨ k = 3 ∨ k = 4 ∨ k = 5 ∨ k = 6 ∨ k = 7 ∨ k = 8 ∨ k = 9 ∨ k = 10 ∨ k = 11 ∨ k = 12 ∨ k = 13 ∨ k = 14 ∨ k = 15 ∨ k = 16 ∨ k = 17 ∨ k = 18 ∨ k = 19 ∨ k = 20 ∨ k = 21 ∨ k = 22 := by
  by_cases hk : k < 23
  · omega
  · exfalso
    have : lv S k i j = False := by
      unfold lv
      split <;> first | omega | rfl
    rw [this] at h
    exact h
/-- roles outside N stay as they are -/
def SO (P : Nat × Nat) (ad ad' : Nat → Nat → Nat → Nat) (S S' : sp) (N : Nat → Nat → Nat → Prop) : Prop := ∀ k i j, lv S' k i j → ¬ N k i j → lv S k i j ∧ ad' k i j = ad k i j ∧ ∀ c, okc P ad S k i j c → okc P ad' S' k i j c
section CVs
variable {P : Nat × Nat} {fx fx' : Nat → Prop} {mem mem' : Nat → am_C} {K K' : Nat × Nat} {ad ad' : Nat → Nat → Nat → Nat} {h h' : am_H} {S S' : sp}
theorem CV.upd (hv : CV P fx mem K ad h S) (N : Nat → Nat → Nat → Prop) (hso : SO P ad ad' S S' N) (hle : h.1 ≤ h'.1)
    (hc : ∀ k i j, lv S k i j → lv S' k i j → ¬ N k i j → h'.2.2 (ad k i j) = h.2.2 (ad k i j))
    (hf : ∀ k i j, lv S k i j → lv S' k i j → ¬ N k i j → ¬ fx' (ad k i j))
    (hnew : ∀ k i j, lv S' k i j → N k i j → ad' k i j < h'.1 ∧ ¬ fx' (ad' k i j) ∧ okc P ad' S' k i j (h'.2.2 (ad' k i j)))
    (hinj : ∀ k i j k' i' j', lv S' k i j → lv S' k' i' j' → ad' k i j = ad' k' i' j' → k = k' ∧ i = i' ∧ j = j')
    (hfx : ∀ a, fx' a → a < h'.1 ∧ h'.2.2 a = mem' a) (hP : fx' P.1) (hE : mem' P.1 = ac_E) (hb1 : h'.1 ≤ K'.1 + w1 S') (hb2 : h'.2.1 ≤ K'.2 + w2 S') : CV P fx' mem' K' ad' h' S' := by
  refine ⟨fun k i j hl => ?_, hinj, hfx, hP, hE, hb1, hb2⟩
  by_cases hN : N k i j
  · exact hnew k i j hl hN
  · obtain ⟨b1, b2, b3⟩ := hso k i j hl hN
    obtain ⟨c1, c2, c3⟩ := hv.1 k i j b1
    rw [b2, hc k i j b1 hl hN]
    exact ⟨by omega, hf k i j b1 hl hN, b3 _ c3⟩
/-- addresses: below b, no two the same -/
def AJ (L : Nat → Nat → Nat → Prop) (ad : Nat → Nat → Nat → Nat) : Prop := ∀ k i j k' i' j', L k i j → L k' i' j' → ad k i j = ad k' i' j' → k = k' ∧ i = i' ∧ j = j'
theorem AJ.mv {L L' : Nat → Nat → Nat → Prop} (hj : AJ L ad) (k0 i0 j0 e : Nat) (hL : ∀ k i j, L' k i j → L k i j ∨ (k = k0 ∧ i = i0 ∧ j = j0)) (he : ∀ k i j, L k i j → ¬ (k = k0 ∧ i = i0 ∧ j = j0) → ad k i j ≠ e) : AJ L' (u3 ad k0 i0 j0 e) := by
  intro k i j k' i' j' hl hl' hq
  unfold u3 at hq
  by_cases h1 : k = k0 ∧ i = i0 ∧ j = j0
  · by_cases h2 : k' = k0 ∧ i' = i0 ∧ j' = j0
    · exact ⟨h1.1.trans h2.1.symm, h1.2.1.trans h2.2.1.symm, h1.2.2.trans h2.2.2.symm⟩
    · rw [if_pos h1, if_neg h2] at hq
      exact absurd hq.symm (he k' i' j' ((hL k' i' j' hl').resolve_right h2) h2)
  · rw [if_neg h1] at hq
    by_cases h2 : k' = k0 ∧ i' = i0 ∧ j' = j0
    · rw [if_pos h2] at hq
      exact absurd hq (he k i j ((hL k i j hl).resolve_right h1) h1)
    · rw [if_neg h2] at hq
      exact hj k i j k' i' j' ((hL k i j hl).resolve_right h1) ((hL k' i' j' hl').resolve_right h2) hq
/-- one cell anew -/
theorem CV.put (hv : CV P fx mem K ad h S) (k i j : Nat) (hl : lv S k i j) {c : am_C} (hso : SO P ad ad S S' (fun a b d => a = k ∧ b = i ∧ d = j)) (hok : okc P ad S' k i j c) (hb1 : w1 S' = w1 S) (hb2 : w2 S' = w2 S) : CV P fx mem K ad (ah_put h (ad k i j) c) S' := by
  refine hv.upd (fun a b d => a = k ∧ b = i ∧ d = j) hso (Nat.le_refl _) (fun a b d h1 h2 hn => ?_) (fun a b d h1 h2 hn => (hv.1 a b d h1).2.1) (fun a b d h1 hn => ?_) (fun a b d a' b' d' h1 h2 he => ?_) (fun a ha => ?_) hv.2.2.2.1 hv.2.2.2.2.1 (by rw [hb1]; exact hv.2.2.2.2.2.1) (by rw [hb2]; exact hv.2.2.2.2.2.2)
  · exact ah_ne (fun e => hn (hv.2.1 a b d k i j h1 hl e))
  · obtain ⟨rfl, rfl, rfl⟩ := hn
    rw [ah_same]
    exact ⟨(hv.1 a b d hl).1, (hv.1 a b d hl).2.1, hok⟩
  · have hz : ∀ a b d, lv S' a b d → lv S a b d := fun a b d hq => by
      by_cases hn : a = k ∧ b = i ∧ d = j
      · obtain ⟨rfl, rfl, rfl⟩ := hn
        exact hl
      · exact (hso a b d hq hn).1
    exact hv.2.1 a b d a' b' d' (hz a b d h1) (hz a' b' d' h2) he
  · obtain ⟨b1, b2⟩ := hv.2.2.1 a ha
    refine ⟨b1, ?_⟩
    rw [ah_ne (show a ≠ ad k i j from fun e => (hv.1 k i j hl).2.1 (e ▸ ha))]
    exact b2
theorem CV.x (hv : CV P fx mem K ad h S) : h.2.2 (ad 0 0 0) = ac_O 8 [.ref (ad 1 0 0), .ref (ad 3 0 0), .ref (ad 5 0 0), .ref (ad 7 0 0), .int (S.2 0 0 0), .int (S.2 0 1 0), .int (S.2 0 2 0), .int (S.2 0 3 0), .int (S.2 0 4 0)] := (hv.1 0 0 0 ⟨rfl, rfl⟩).2.2
theorem CV.ba (hv : CV P fx mem K ad h S) : h.2.2 (ad 7 0 0) = ac_O 1 [.ref (ad 8 0 0), .int (nI (S.1 2 0 0)), .int (S.2 0 5 0)] := (hv.1 7 0 0 ⟨rfl, rfl⟩).2.2
theorem CV.bm (hv : CV P fx mem K ad h S) : ∃ f, h.2.2 (ad 8 0 0) = ac_I 200 f ∧ ∀ i, i < S.1 2 0 0 → f i = S.2 5 i 0 := (hv.1 8 0 0 ⟨rfl, rfl⟩).2.2
theorem CV.dk (hv : CV P fx mem K ad h S) : h.2.2 (ad 5 0 0) = ac_O 2 [.int (nI 5), .ref (ad 6 0 0), .int (nI (S.1 1 0 0))] := (hv.1 5 0 0 ⟨rfl, rfl⟩).2.2
theorem CV.ol (hv : CV P fx mem K ad h S) : ∃ mc, h.2.2 (ad 1 0 0) = ac_O 0 [.int mc, .ref (if S.1 0 0 0 = 0 then P.1 else ad 2 0 0), .int (nI (S.1 0 0 0))] := (hv.1 1 0 0 ⟨rfl, rfl⟩).2.2
theorem CV.rl (hv : CV P fx mem K ad h S) : ∃ mc, h.2.2 (ad 3 0 0) = ac_O 0 [.int mc, .ref (if S.1 3 0 0 = 0 then P.1 else ad 4 0 0), .int (nI (S.1 3 0 0))] := (hv.1 3 0 0 ⟨rfl, rfl⟩).2.2
theorem CV.rd (hv : CV P fx mem K ad h S) {r : Nat} (hr : r < S.1 3 0 0) : h.2.2 (ad 21 r 0) = ac_O 6 [.ref (ad 14 (S.1 7 r 0) 0), .ref (ad 22 r 0), .int (nI (S.1 8 r 0))] := (hv.1 21 r 0 ⟨hr, rfl⟩).2.2
theorem CV.rk (hv : CV P fx mem K ad h S) {r : Nat} (hr : r < S.1 3 0 0) : S.1 8 r 0 ≤ S.1 6 (S.1 7 r 0) 0 ∧ ∃ f, h.2.2 (ad 22 r 0) = ac_I 10 f ∧ ∀ k, k < 10 → f k = nI (q_cnt S (S.1 7 r 0) (nI k) (S.1 8 r 0)) := (hv.1 22 r 0 ⟨hr, rfl⟩).2.2
section CVo
variable {o : Nat}
theorem CV.ou (hv : CV P fx mem K ad h S) (ho : o < S.1 0 0 0) : h.2.2 (ad 9 o 0) = ac_O 4 [.int (nI o), .int (S.2 1 o 0), .ref (ad 10 o 0), .ref (ad 11 o 0), .int (nI (S.1 4 o 0)), .ref (ad 12 o 0), .int (S.2 1 o 1), .int (S.2 1 o 2), .ref (ad 14 o 0), .ref (ad 16 o 0)] := (hv.1 9 o 0 ⟨ho, rfl⟩).2.2
theorem CV.ok (hv : CV P fx mem K ad h S) (ho : o < S.1 0 0 0) : ∃ f, h.2.2 (ad 10 o 0) = ac_I 20 f ∧ ∀ k, k < S.1 4 o 0 → f k = S.2 2 o k := (hv.1 10 o 0 ⟨ho, rfl⟩).2.2
theorem CV.ov (hv : CV P fx mem K ad h S) (ho : o < S.1 0 0 0) : ∃ f, h.2.2 (ad 11 o 0) = ac_I 20 f ∧ ∀ k, k < S.1 4 o 0 → f k = S.2 3 o k := (hv.1 11 o 0 ⟨ho, rfl⟩).2.2
theorem CV.pl (hv : CV P fx mem K ad h S) (ho : o < S.1 0 0 0) : ∃ mc, h.2.2 (ad 12 o 0) = ac_O 0 [.int mc, .ref (if S.1 5 o 0 = 0 then P.1 else ad 13 o 0), .int (nI (S.1 5 o 0))] := (hv.1 12 o 0 ⟨ho, rfl⟩).2.2
theorem CV.li (hv : CV P fx mem K ad h S) (ho : o < S.1 0 0 0) : h.2.2 (ad 14 o 0) = ac_O 3 [.int (nI 4), .ref (ad 15 o 0), .int (nI (S.1 6 o 0))] := (hv.1 14 o 0 ⟨ho, rfl⟩).2.2
theorem CV.tb (hv : CV P fx mem K ad h S) (ho : o < S.1 0 0 0) : h.2.2 (ad 16 o 0) = ac_O 7 [.ref (ad 17 o 0), .ref (ad 18 o 0), .ref (ad 19 o 0), .int (nI (q_keys S o 10))] := (hv.1 16 o 0 ⟨ho, rfl⟩).2.2
theorem CV.tv (hv : CV P fx mem K ad h S) (ho : o < S.1 0 0 0) : ∃ f, h.2.2 (ad 17 o 0) = ac_I 10 f ∧ ∀ k, k < 10 → f k = S.2 12 o k := (hv.1 17 o 0 ⟨ho, rfl⟩).2.2
theorem CV.tp (hv : CV P fx mem K ad h S) (ho : o < S.1 0 0 0) : ∃ f, h.2.2 (ad 18 o 0) = ac_I 10 f ∧ ∀ k, k < 10 → f k = S.2 10 o k := (hv.1 18 o 0 ⟨ho, rfl⟩).2.2.2
theorem CV.tz (hv : CV P fx mem K ad h S) (ho : o < S.1 0 0 0) : S.2 1 o 0 = 0 → ∀ k, k < 10 → S.2 10 o k = -6 := (hv.1 18 o 0 ⟨ho, rfl⟩).2.2.1
theorem CV.tl (hv : CV P fx mem K ad h S) (ho : o < S.1 0 0 0) : ∃ f, h.2.2 (ad 19 o 0) = ac_I 10 f ∧ ∀ k, k < 10 → f k = S.2 11 o k := (hv.1 19 o 0 ⟨ho, rfl⟩).2.2
theorem CV.pt (hv : CV P fx mem K ad h S) (ho : o < S.1 0 0 0) {p : Nat} (hp : p < S.1 5 o 0) : ∃ x y, h.2.2 (ad 20 o p) = ac_O 5 [.int (nI p), .int (nI (S.1 9 o p)), .int (nI (S.1 10 o p)), .int (if S.1 11 o p = 0 then -6 else S.2 13 o p), .int (nI (S.1 11 o p)), .int x, .int y] := (hv.1 20 o p ⟨ho, hp⟩).2.2
end CVo
/-- the class's rows -/
theorem CV.rwD (hv : CV P fx mem K ad h S) (hn : S.1 1 0 0 ≤ 20000) : ∃ N f, RW h (ad 5 0 0) 2 5 (ad 6 0 0) (S.1 1 0 0) N f ∧ ∀ i q, i < S.1 1 0 0 → q < 5 → f (i * 5 + q) = S.2 4 i q := by
  obtain ⟨b1, b2, N, f, b3, b4, b5, b6⟩ := hv.1 6 0 0 ⟨rfl, rfl⟩
  exact ⟨N, f, ⟨hv.dk, b3, Or.inl rfl, b4, b5, Or.inr rfl, fun e => absurd (hv.2.1 5 0 0 6 0 0 ⟨rfl, rfl⟩ ⟨rfl, rfl⟩ e).1 (by decide), (hv.1 5 0 0 ⟨rfl, rfl⟩).1, b1, hn⟩, b6⟩
theorem CV.rwL (hv : CV P fx mem K ad h S) {o : Nat} (ho : o < S.1 0 0 0) (hn : S.1 6 o 0 ≤ 20000) : ∃ N f, RW h (ad 14 o 0) 3 4 (ad 15 o 0) (S.1 6 o 0) N f ∧ ∀ n, n < S.1 6 o 0 → f (n * 4) = S.2 6 o n ∧ f (n * 4 + 1) = S.2 7 o n ∧ f (n * 4 + 2) = S.2 8 o n ∧ f (n * 4 + 3) = S.2 9 o n := by
  obtain ⟨b1, b2, N, f, b3, b4, b5, b6⟩ := hv.1 15 o 0 ⟨ho, rfl⟩
  exact ⟨N, f, ⟨hv.li ho, b3, Or.inr rfl, b4, b5, Or.inl rfl, fun e => absurd (hv.2.1 14 o 0 15 o 0 ⟨ho, rfl⟩ ⟨ho, rfl⟩ e).1 (by decide), (hv.1 14 o 0 ⟨ho, rfl⟩).1, b1, hn⟩, b6⟩
/-- an output, by its number -/
theorem CV.getO (hv : CV P fx mem K ad h S) {o : Nat} (ho : o < S.1 0 0 0) (h3 : S.1 0 0 0 ≤ 3) : am_E P 120 0 [some (.ref (ad 1 0 0)), some (.int (nI o))] [] h = some (some (.ref (ad 9 o 0)), h) := by
  obtain ⟨mc, e1⟩ := hv.ol
  rw [if_neg (show ¬ S.1 0 0 0 = 0 by omega)] at e1
  obtain ⟨b1, b2, cap, g, b3, b4, b5, b6⟩ := hv.1 2 0 0 ⟨⟨rfl, rfl⟩, by omega⟩
  exact c_get P e1 b3 ho b4 (by omega) (b6 o ho)
theorem CV.getR (hv : CV P fx mem K ad h S) {r : Nat} (hr : r < S.1 3 0 0) : am_E P 120 0 [some (.ref (ad 3 0 0)), some (.int (nI r))] [] h = some (some (.ref (ad 21 r 0)), h) := by
  obtain ⟨mc, e1⟩ := hv.rl
  rw [if_neg (show ¬ S.1 3 0 0 = 0 by omega)] at e1
  obtain ⟨b1, b2, cap, g, b3, b4, b5, b6⟩ := hv.1 4 0 0 ⟨⟨rfl, rfl⟩, by omega⟩
  exact c_get P e1 b3 hr b4 (by omega) (b6 r hr)
theorem CV.getP (hv : CV P fx mem K ad h S) {o p : Nat} (ho : o < S.1 0 0 0) (hp : p < S.1 5 o 0) : am_E P 120 0 [some (.ref (ad 12 o 0)), some (.int (nI p))] [] h = some (some (.ref (ad 20 o p)), h) := by
  obtain ⟨mc, e1⟩ := hv.pl ho
  rw [if_neg (show ¬ S.1 5 o 0 = 0 by omega)] at e1
  obtain ⟨b1, b2, cap, g, b3, b4, b5, b6⟩ := hv.1 13 o 0 ⟨⟨ho, rfl⟩, by omega⟩
  exact c_get P e1 b3 hp b4 (by omega) (b6 p hp)
theorem CV.szO (hv : CV P fx mem K ad h S) : am_E P 118 0 [some (.ref (ad 1 0 0))] [] h = some (some (.int (nI (S.1 0 0 0))), h) ∧ am_cls h (ad 1 0 0) = some 0 := by
  obtain ⟨mc, e1⟩ := hv.ol
  exact ⟨c_size P e1, cl_of e1⟩
theorem CV.szR (hv : CV P fx mem K ad h S) : am_E P 118 0 [some (.ref (ad 3 0 0))] [] h = some (some (.int (nI (S.1 3 0 0))), h) ∧ am_cls h (ad 3 0 0) = some 0 := by
  obtain ⟨mc, e1⟩ := hv.rl
  exact ⟨c_size P e1, cl_of e1⟩
theorem CV.szP (hv : CV P fx mem K ad h S) {o : Nat} (ho : o < S.1 0 0 0) : am_E P 118 0 [some (.ref (ad 12 o 0))] [] h = some (some (.int (nI (S.1 5 o 0))), h) ∧ am_cls h (ad 12 o 0) = some 0 := by
  obtain ⟨mc, e1⟩ := hv.pl ho
  exact ⟨c_size P e1, cl_of e1⟩
end CVs
/-- arrays that may be left for larger ones: their addresses are nobody's business -/
def jn (ad ae : Nat → Nat → Nat → Nat) : Nat → Nat → Nat → Nat := fun k i j => if k = 2 ∨ k = 4 ∨ k = 6 ∨ k = 13 ∨ k = 15 then ae k i j else ad k i j
theorem jn_u3 (ad ae : Nat → Nat → Nat → Nat) {k : Nat} (hk : k = 2 ∨ k = 4 ∨ k = 6 ∨ k = 13 ∨ k = 15) (i j e : Nat) : u3 (jn ad ae) k i j e = jn ad (u3 ae k i j e) := by
  funext a b c
  unfold u3 jn
  by_cases ha : a = k
  · subst ha
    simp only [if_pos hk]
  · simp only [ha, false_and, if_false]
def CW (P : Nat × Nat) (fx : Nat → Prop) (mem : Nat → am_C) (K : Nat × Nat) (ad : Nat → Nat → Nat → Nat) (h : am_H) (S : sp) : Prop := ∃ ae, CV P fx mem K (jn ad ae) h S
section CWs
variable {P : Nat × Nat} {fx : Nat → Prop} {mem : Nat → am_C} {K : Nat × Nat} {ad : Nat → Nat → Nat → Nat} {h : am_H} {S S' : sp}
theorem CW.put (hv : CW P fx mem K ad h S) (k i j : Nat) (hk : ∀ ae, jn ad ae k i j = ad k i j) (hl : lv S k i j) {c : am_C} (hso : ∀ ae, SO P (jn ad ae) (jn ad ae) S S' (fun a b d => a = k ∧ b = i ∧ d = j)) (hok : ∀ ae, okc P (jn ad ae) S' k i j c) (hb1 : w1 S' = w1 S) (hb2 : w2 S' = w2 S) : CW P fx mem K ad (ah_put h (ad k i j) c) S' := by
  obtain ⟨ae, hv⟩ := hv
  have := hv.put k i j hl (hso ae) (hok ae) hb1 hb2
  rw [hk ae] at this
  exact ⟨ae, this⟩
theorem CW.x (hv : CW P fx mem K ad h S) : h.2.2 (ad 0 0 0) = ac_O 8 [.ref (ad 1 0 0), .ref (ad 3 0 0), .ref (ad 5 0 0), .ref (ad 7 0 0), .int (S.2 0 0 0), .int (S.2 0 1 0), .int (S.2 0 2 0), .int (S.2 0 3 0), .int (S.2 0 4 0)] := by
  obtain ⟨ae, hv⟩ := hv
  exact hv.x 
theorem CW.ba (hv : CW P fx mem K ad h S) : h.2.2 (ad 7 0 0) = ac_O 1 [.ref (ad 8 0 0), .int (nI (S.1 2 0 0)), .int (S.2 0 5 0)] := by
  obtain ⟨ae, hv⟩ := hv
  exact hv.ba 
theorem CW.bm (hv : CW P fx mem K ad h S) : ∃ f, h.2.2 (ad 8 0 0) = ac_I 200 f ∧ ∀ i, i < S.1 2 0 0 → f i = S.2 5 i 0 := by
  obtain ⟨ae, hv⟩ := hv
  exact hv.bm 
theorem CW.rd (hv : CW P fx mem K ad h S) {r : Nat} (hr : r < S.1 3 0 0) : h.2.2 (ad 21 r 0) = ac_O 6 [.ref (ad 14 (S.1 7 r 0) 0), .ref (ad 22 r 0), .int (nI (S.1 8 r 0))] := by
  obtain ⟨ae, hv⟩ := hv
  exact hv.rd hr
theorem CW.rk (hv : CW P fx mem K ad h S) {r : Nat} (hr : r < S.1 3 0 0) : S.1 8 r 0 ≤ S.1 6 (S.1 7 r 0) 0 ∧ ∃ f, h.2.2 (ad 22 r 0) = ac_I 10 f ∧ ∀ k, k < 10 → f k = nI (q_cnt S (S.1 7 r 0) (nI k) (S.1 8 r 0)) := by
  obtain ⟨ae, hv⟩ := hv
  exact hv.rk hr
theorem CW.ou {o : Nat} (hv : CW P fx mem K ad h S) (ho : o < S.1 0 0 0) : h.2.2 (ad 9 o 0) = ac_O 4 [.int (nI o), .int (S.2 1 o 0), .ref (ad 10 o 0), .ref (ad 11 o 0), .int (nI (S.1 4 o 0)), .ref (ad 12 o 0), .int (S.2 1 o 1), .int (S.2 1 o 2), .ref (ad 14 o 0), .ref (ad 16 o 0)] := by
  obtain ⟨ae, hv⟩ := hv
  exact hv.ou ho
theorem CW.ok {o : Nat} (hv : CW P fx mem K ad h S) (ho : o < S.1 0 0 0) : ∃ f, h.2.2 (ad 10 o 0) = ac_I 20 f ∧ ∀ k, k < S.1 4 o 0 → f k = S.2 2 o k := by
  obtain ⟨ae, hv⟩ := hv
  exact hv.ok ho
theorem CW.ov {o : Nat} (hv : CW P fx mem K ad h S) (ho : o < S.1 0 0 0) : ∃ f, h.2.2 (ad 11 o 0) = ac_I 20 f ∧ ∀ k, k < S.1 4 o 0 → f k = S.2 3 o k := by
  obtain ⟨ae, hv⟩ := hv
  exact hv.ov ho
theorem CW.tb {o : Nat} (hv : CW P fx mem K ad h S) (ho : o < S.1 0 0 0) : h.2.2 (ad 16 o 0) = ac_O 7 [.ref (ad 17 o 0), .ref (ad 18 o 0), .ref (ad 19 o 0), .int (nI (q_keys S o 10))] := by
  obtain ⟨ae, hv⟩ := hv
  exact hv.tb ho
theorem CW.tv {o : Nat} (hv : CW P fx mem K ad h S) (ho : o < S.1 0 0 0) : ∃ f, h.2.2 (ad 17 o 0) = ac_I 10 f ∧ ∀ k, k < 10 → f k = S.2 12 o k := by
  obtain ⟨ae, hv⟩ := hv
  exact hv.tv ho
theorem CW.tp {o : Nat} (hv : CW P fx mem K ad h S) (ho : o < S.1 0 0 0) : ∃ f, h.2.2 (ad 18 o 0) = ac_I 10 f ∧ ∀ k, k < 10 → f k = S.2 10 o k := by
  obtain ⟨ae, hv⟩ := hv
  exact hv.tp ho
theorem CW.tz {o : Nat} (hv : CW P fx mem K ad h S) (ho : o < S.1 0 0 0) : S.2 1 o 0 = 0 → ∀ k, k < 10 → S.2 10 o k = -6 := by
  obtain ⟨ae, hv⟩ := hv
  exact hv.tz ho
theorem CW.tl {o : Nat} (hv : CW P fx mem K ad h S) (ho : o < S.1 0 0 0) : ∃ f, h.2.2 (ad 19 o 0) = ac_I 10 f ∧ ∀ k, k < 10 → f k = S.2 11 o k := by
  obtain ⟨ae, hv⟩ := hv
  exact hv.tl ho
theorem CW.pt {o : Nat} (hv : CW P fx mem K ad h S) (ho : o < S.1 0 0 0) {p : Nat} (hp : p < S.1 5 o 0) : ∃ x y, h.2.2 (ad 20 o p) = ac_O 5 [.int (nI p), .int (nI (S.1 9 o p)), .int (nI (S.1 10 o p)), .int (if S.1 11 o p = 0 then -6 else S.2 13 o p), .int (nI (S.1 11 o p)), .int x, .int y] := by
  obtain ⟨ae, hv⟩ := hv
  exact hv.pt ho hp
theorem CW.getO (hv : CW P fx mem K ad h S) {o : Nat} (ho : o < S.1 0 0 0) (h3 : S.1 0 0 0 ≤ 3) : am_E P 120 0 [some (.ref (ad 1 0 0)), some (.int (nI o))] [] h = some (some (.ref (ad 9 o 0)), h) := by
  obtain ⟨ae, hv⟩ := hv
  exact hv.getO ho h3
theorem CW.getR (hv : CW P fx mem K ad h S) {r : Nat} (hr : r < S.1 3 0 0) : am_E P 120 0 [some (.ref (ad 3 0 0)), some (.int (nI r))] [] h = some (some (.ref (ad 21 r 0)), h) := by
  obtain ⟨ae, hv⟩ := hv
  exact hv.getR hr
theorem CW.getP (hv : CW P fx mem K ad h S) {o p : Nat} (ho : o < S.1 0 0 0) (hp : p < S.1 5 o 0) : am_E P 120 0 [some (.ref (ad 12 o 0)), some (.int (nI p))] [] h = some (some (.ref (ad 20 o p)), h) := by
  obtain ⟨ae, hv⟩ := hv
  exact hv.getP ho hp
theorem CW.szO (hv : CW P fx mem K ad h S) : am_E P 118 0 [some (.ref (ad 1 0 0))] [] h = some (some (.int (nI (S.1 0 0 0))), h) ∧ am_cls h (ad 1 0 0) = some 0 := by
  obtain ⟨ae, hv⟩ := hv
  exact hv.szO 
theorem CW.szR (hv : CW P fx mem K ad h S) : am_E P 118 0 [some (.ref (ad 3 0 0))] [] h = some (some (.int (nI (S.1 3 0 0))), h) ∧ am_cls h (ad 3 0 0) = some 0 := by
  obtain ⟨ae, hv⟩ := hv
  exact hv.szR 
theorem CW.szP (hv : CW P fx mem K ad h S) {o : Nat} (ho : o < S.1 0 0 0) : am_E P 118 0 [some (.ref (ad 12 o 0))] [] h = some (some (.int (nI (S.1 5 o 0))), h) ∧ am_cls h (ad 12 o 0) = some 0 := by
  obtain ⟨ae, hv⟩ := hv
  exact hv.szP ho
theorem CW.rwD (hv : CW P fx mem K ad h S) (hn : S.1 1 0 0 ≤ 20000) : ∃ e N f, RW h (ad 5 0 0) 2 5 e (S.1 1 0 0) N f ∧ ∀ i q, i < S.1 1 0 0 → q < 5 → f (i * 5 + q) = S.2 4 i q := by
  obtain ⟨ae, hv⟩ := hv
  exact ⟨_, hv.rwD hn⟩
theorem CW.rwL (hv : CW P fx mem K ad h S) {o : Nat} (ho : o < S.1 0 0 0) (hn : S.1 6 o 0 ≤ 20000) : ∃ e N f, RW h (ad 14 o 0) 3 4 e (S.1 6 o 0) N f ∧ ∀ n, n < S.1 6 o 0 → f (n * 4) = S.2 6 o n ∧ f (n * 4 + 1) = S.2 7 o n ∧ f (n * 4 + 2) = S.2 8 o n ∧ f (n * 4 + 3) = S.2 9 o n := by
  obtain ⟨ae, hv⟩ := hv
  exact ⟨_, hv.rwL ho hn⟩
theorem CW.dk (hv : CW P fx mem K ad h S) : ∃ e, h.2.2 (ad 5 0 0) = ac_O 2 [.int (nI 5), .ref e, .int (nI (S.1 1 0 0))] := by
  obtain ⟨ae, hv⟩ := hv
  exact ⟨_, hv.dk⟩
theorem CW.li (hv : CW P fx mem K ad h S) {o : Nat} (ho : o < S.1 0 0 0) : ∃ e, h.2.2 (ad 14 o 0) = ac_O 3 [.int (nI 4), .ref e, .int (nI (S.1 6 o 0))] := by
  obtain ⟨ae, hv⟩ := hv
  exact ⟨_, hv.li ho⟩
theorem CW.cntD (hv : CW P fx mem K ad h S) : am_E P 24 0 [some (.ref (ad 5 0 0))] [] h = some (some (.int (nI (S.1 1 0 0))), h) ∧ am_cls h (ad 5 0 0) = some 2 := by
  obtain ⟨e, h1⟩ := hv.dk
  exact ⟨c_count P h1 (Or.inl rfl), cl_of h1⟩
theorem CW.cntL (hv : CW P fx mem K ad h S) {o : Nat} (ho : o < S.1 0 0 0) : am_E P 24 0 [some (.ref (ad 14 o 0))] [] h = some (some (.int (nI (S.1 6 o 0))), h) ∧ am_cls h (ad 14 o 0) = some 3 := by
  obtain ⟨e, h1⟩ := hv.li ho
  exact ⟨c_count P h1 (Or.inr rfl), cl_of h1⟩
end CWs
