/-! The invariant of the pure state. -/
/-- a part -/
def iP (S : sp) (o p : Nat) : Prop := 0 < S.1 10 o p ∧ S.1 10 o p ≤ 20 ∧ S.1 15 o p ≤ S.1 10 o p ∧ (S.1 11 o p = 2 → S.1 15 o p = S.1 10 o p) ∧ (S.1 11 o p = 0 ∨ S.1 11 o p = 3 → S.1 15 o p = 0) ∧ (S.1 11 o p ≠ 0 → 0 ≤ S.2 13 o p) ∧ (0 < S.1 15 o p → S.2 13 o p ≤ S.2 0 0 0)
/-- the order of an output's parts -/
def iO (S : sp) (o : Nat) : Prop := ∀ p q, p < q → q < S.1 5 o 0 → ((S.1 11 o p = 1 ∨ S.1 11 o p = 2) → (S.1 11 o q = 1 ∨ S.1 11 o q = 2) → S.2 13 o p ≤ S.2 13 o q) ∧ (0 < S.1 15 o q → S.1 11 o p ≠ 1)
/-- a table -/
def iT (S : sp) (o : Nat) : Prop := S.1 6 o 0 = 0 ∧ (∀ k, k < 10 → S.2 10 o k = -6 ∨ ∃ p, p < S.1 5 o 0 ∧ S.2 10 o k = nI p ∧ 0 < S.1 15 o p) ∧
  (∀ p, p < S.1 5 o 0 → ∀ j, j < S.1 15 o p → ∃ q, q < S.1 5 o 0 ∧ S.2 10 o (S.2 4 (S.1 9 o p + j) 3).toNatClampNeg = nI q ∧ p ≤ q)
def IN (S : sp) : Prop := CO S ∧ sp_LP S ∧ S.1 0 0 0 ≤ 3 ∧ (∀ o, S.1 0 0 0 ≤ o → S.1 5 o 0 = 0 ∧ S.1 6 o 0 = 0) ∧ (∀ o p, o < S.1 0 0 0 → p < S.1 5 o 0 → iP S o p) ∧ (∀ o, o < S.1 0 0 0 → iO S o ∧ (S.2 1 o 0 = 0 → iL S o) ∧ (S.2 1 o 0 ≠ 0 → iT S o)) ∧ (∀ o, o < S.1 0 0 0 → 0 ≤ S.2 1 o 2) ∧ -6 ≤ S.2 0 0 0 ∧ S.2 0 0 0 ≤ 1000000
/-- the invariant doesn't speak of open parts, barriers, readers, tries, power -/
theorem IN.same {S T : sp} (h : IN S) (hN : ∀ a b c, a = 0 ∨ a = 1 ∨ a = 5 ∨ a = 6 ∨ a = 9 ∨ a = 10 ∨ a = 11 ∨ a = 14 ∨ a = 15 → T.1 a b c = S.1 a b c) (hV : ∀ a b c, a = 4 ∨ a = 6 ∨ a = 8 ∨ a = 9 ∨ a = 10 ∨ a = 13 → T.2 a b c = S.2 a b c) (hm : T.2 0 0 0 = S.2 0 0 0) (he : T.2 0 1 0 = S.2 0 1 0) (hs : ∀ o, T.2 1 o 0 = S.2 1 o 0) (hl : sp_LP T) (hf : ∀ o, o < S.1 0 0 0 → 0 ≤ T.2 1 o 2) : IN T := by
  obtain ⟨a1, a2, a3, a4, a5, a6, a7, a8, a9⟩ := h
  have N0 := hN 0 0 0 (by omega)
  refine ⟨a1.same (fun i c _ => hV 4 i c (by omega)) N0 (hN 1 0 0 (by omega)) (fun o _ => hN 5 o 0 (by omega)) (fun o p _ _ => ⟨hN 9 o p (by omega), hN 10 o p (by omega), hN 11 o p (by omega), hV 13 o p (by omega)⟩) hm he, hl, by rw [N0]; exact a3, fun o ho => ?_, fun o p ho hp => ?_, fun o ho => ?_, fun o ho => ?_, by rw [hm]; exact a8, by rw [hm]; exact a9⟩
  · rw [N0] at ho
    rw [hN 5 o 0 (by omega), hN 6 o 0 (by omega)]
    exact a4 o ho
  · rw [N0] at ho
    rw [hN 5 o 0 (by omega)] at hp
    have := a5 o p ho hp
    unfold iP at this ⊢
    rw [hN 10 o p (by omega), hN 15 o p (by omega), hN 11 o p (by omega), hV 13 o p (by omega), hm]
    exact this
  · rw [N0] at ho
    obtain ⟨b1, b2, b3⟩ := a6 o ho
    refine ⟨fun p q hpq hq => ?_, fun hz => ?_, fun hz => ?_⟩
    · rw [hN 5 o 0 (by omega)] at hq
      have := b1 p q hpq hq
      rw [hN 11 o p (by omega), hN 11 o q (by omega), hN 15 o q (by omega), hV 13 o p (by omega), hV 13 o q (by omega)]
      exact this
    · rw [hs o] at hz
      have := b2 hz
      unfold iL at this ⊢
      have e5 := hN 5 o 0 (by omega)
      have e6 := hN 6 o 0 (by omega)
      have e14 : ∀ p, T.1 14 o p = S.1 14 o p := fun p => hN 14 o p (by omega)
      have e15 : ∀ p, T.1 15 o p = S.1 15 o p := fun p => hN 15 o p (by omega)
      have v6 : ∀ i, T.2 6 o i = S.2 6 o i := fun i => hV 6 o i (by omega)
      have v8 : ∀ i, T.2 8 o i = S.2 8 o i := fun i => hV 8 o i (by omega)
      have v9 : ∀ i, T.2 9 o i = S.2 9 o i := fun i => hV 9 o i (by omega)
      simp only [e5, e6, e14, e15, v6, v8, v9]
      exact this
    · rw [hs o] at hz
      have := b3 hz
      unfold iT at this ⊢
      have e5 := hN 5 o 0 (by omega)
      have e6 := hN 6 o 0 (by omega)
      have e9 : ∀ p, T.1 9 o p = S.1 9 o p := fun p => hN 9 o p (by omega)
      have e15 : ∀ p, T.1 15 o p = S.1 15 o p := fun p => hN 15 o p (by omega)
      have v4 : ∀ i c, T.2 4 i c = S.2 4 i c := fun i c => hV 4 i c (by omega)
      have v10 : ∀ i, T.2 10 o i = S.2 10 o i := fun i => hV 10 o i (by omega)
      simp only [e5, e6, e9, e15, v4, v10]
      exact this
  · rw [N0] at ho
    exact hf o ho
theorem IN.act {S : sp} (h : IN S) : IN (sp_act S).2 :=
  h.same (fun a b c ha => sa_N (by omega)) (fun a b c ha => sa_V (by omega)) (sa_V0 (by decide) (by decide) (by decide)) (sa_V0 (by decide) (by decide) (by decide)) (fun o => sa_V (by decide)) (sa_LP h.2.1) (fun o ho => by rw [sa_V (by decide)]; exact h.2.2.2.2.2.2.1 o ho)
/-- how many rows an output's parts have: no more than there are records -/
theorem rows_le {S : sp} {o : Nat} (g : Nat) (hg : g < 1000) : ∀ n, sum_ (fun p => q_rows S (nI o) (nI p) n) g ≤ n := by
  intro n
  induction n with
  | zero =>
    have : sum_ (fun p => q_rows S (nI o) (nI p) 0) g ≤ sum_ (fun _ => 0) g := sum_le (fun i _ => Nat.le_refl _)
    have z : ∀ m, sum_ (fun _ => 0) m = 0 := by
      intro m
      induction m with
      | zero => rfl
      | succ m ih => unfold sum_; rw [ih]
    rw [z] at this
    omega
  | succ n ih =>
    have key : ∀ m, m ≤ g → sum_ (fun p => q_rows S (nI o) (nI p) (n + 1)) m ≤ sum_ (fun p => q_rows S (nI o) (nI p) n) m + 1 ∧ ((∀ p, p < m → ¬ S.2 4 n 2 = nI p) → sum_ (fun p => q_rows S (nI o) (nI p) (n + 1)) m ≤ sum_ (fun p => q_rows S (nI o) (nI p) n) m) := by
      intro m
      induction m with
      | zero => intro _; exact ⟨Nat.zero_le _, fun _ => Nat.le_refl _⟩
      | succ m ih2 =>
        intro hm
        obtain ⟨i1, i2⟩ := ih2 (by omega)
        have e : q_rows S (nI o) (nI m) (n + 1) = q_rows S (nI o) (nI m) n + (if S.2 4 n 0 = 0 ∧ S.2 4 n 1 = nI o ∧ S.2 4 n 2 = nI m then 1 else 0) := rfl
        constructor
        · by_cases hc : S.2 4 n 0 = 0 ∧ S.2 4 n 1 = nI o ∧ S.2 4 n 2 = nI m
          · have := i2 (fun p hp hq => by
              have := (nI_inj (a := p) (b := m) (by omega) (by omega)).mp (hq.symm.trans hc.2.2)
              omega)
            unfold sum_
            rw [e, if_pos hc]
            omega
          · unfold sum_
            rw [e, if_neg hc]
            omega
        · intro hno
          have := i2 (fun p hp => hno p (by omega))
          unfold sum_
          rw [e, if_neg (fun q => hno m (by omega) q.2.2)]
          omega
    have := (key g (Nat.le_refl _)).1
    omega
theorem IN.rows {S : sp} (h : IN S) {o : Nat} (ho : o < S.1 0 0 0) : sum_ (fun p => S.1 10 o p) (S.1 5 o 0) ≤ S.1 1 0 0 := by
  have h3 := h.2.2.1
  have := rows_le (S := S) (o := o) (S.1 5 o 0) (h.1.2.2.1 o (by omega)) (S.1 1 0 0)
  rw [sum_c (g := fun p => S.1 10 o p) (fun p hp => (h.1.1 o p (by omega) hp).2.2.2.2.2)] at this
  exact this
theorem IN.lines {S : sp} (h : IN S) (o : Nat) : S.1 6 o 0 ≤ S.1 1 0 0 := by
  by_cases ho : o < S.1 0 0 0
  · by_cases hz : S.2 1 o 0 = 0
    · have hl := (h.2.2.2.2.2.1 o ho).2.1 hz
      have a : sum_ (fun p => S.1 15 o p) (S.1 5 o 0) ≤ sum_ (fun p => S.1 10 o p) (S.1 5 o 0) := sum_le (fun p hp => (h.2.2.2.2.1 o p ho hp).2.2.1)
      have b := h.rows ho
      have c := hl.2.2.2.1
      omega
    · have := ((h.2.2.2.2.2.1 o ho).2.2 hz).1
      omega
  · have := (h.2.2.2.1 o (by omega)).2
    omega
theorem IN.gv {S : sp} (h : IN S) {o : Nat} (ho : o < S.1 0 0 0) : S.1 5 o 0 ≤ S.1 1 0 0 := by
  have b := h.rows ho
  have z : ∀ m, m ≤ S.1 5 o 0 → m ≤ sum_ (fun p => S.1 10 o p) m := by
    intro m
    induction m with
    | zero => intro _; exact Nat.zero_le _
    | succ m ih =>
      intro hm
      have := ih (by omega)
      have := (h.2.2.2.2.1 o m ho (by omega)).1
      unfold sum_
      omega
  have := z _ (Nat.le_refl _)
  omega
