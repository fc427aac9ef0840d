/-! Lines out there: block by block, each part's rows in their order. -/
def sum_ (f : Nat → Nat) : Nat → Nat
  | 0 => 0
  | i + 1 => sum_ f i + f i
theorem sum_c {f g : Nat → Nat} : ∀ {n : Nat}, (∀ i, i < n → f i = g i) → sum_ f n = sum_ g n := by
  intro n
  induction n with
  | zero => intro _; rfl
  | succ n ih => intro h; unfold sum_; rw [ih (fun i hi => h i (by omega)), h n (by omega)]
theorem sum_le {f g : Nat → Nat} : ∀ {n : Nat}, (∀ i, i < n → f i ≤ g i) → sum_ f n ≤ sum_ g n := by
  intro n
  induction n with
  | zero => intro _; exact Nat.le_refl _
  | succ n ih =>
    intro h
    have a := ih (fun i hi => h i (by omega))
    have b := h n (by omega)
    unfold sum_
    omega
theorem sum_up {f g : Nat → Nat} {p : Nat} : ∀ {n : Nat}, p < n → (∀ i, i < n → i ≠ p → g i = f i) → g p = f p + 1 → sum_ g n = sum_ f n + 1 := by
  intro n
  induction n with
  | zero => intro h; omega
  | succ n ih =>
    intro hp h hg
    unfold sum_
    by_cases hpn : p = n
    · subst hpn
      rw [sum_c (fun i hi => h i (by omega) (by omega)), hg]
      omega
    · rw [ih (by omega) (fun i hi => h i (by omega)) hg, h n (by omega) (by omega)]
      omega
/-- the lines of an output -/
def iL (S : sp) (o : Nat) : Prop :=
  (∀ p, p < S.1 5 o 0 → ∀ j, j < S.1 15 o p → S.1 14 o p + j < S.1 6 o 0 ∧ S.2 8 o (S.1 14 o p + j) = nI p ∧ S.2 9 o (S.1 14 o p + j) = nI j) ∧
  (∀ i, i < S.1 6 o 0 → ∃ p, p < S.1 5 o 0 ∧ S.1 14 o p ≤ i ∧ i < S.1 14 o p + S.1 15 o p) ∧
  (∀ p q, p < q → q < S.1 5 o 0 → 0 < S.1 15 o p → 0 < S.1 15 o q → S.1 14 o p + S.1 15 o p ≤ S.1 14 o q) ∧
  S.1 6 o 0 = sum_ (fun p => S.1 15 o p) (S.1 5 o 0) ∧
  (∀ i, i < S.1 6 o 0 → 0 ≤ S.2 6 o i ∧ S.2 6 o i < 10)
theorem q_has_ex {S : sp} {o p pl : Nat} : ∀ {n : Nat}, q_has S o p pl n = true ↔ ∃ i, i < n ∧ S.2 8 o i = nI p ∧ S.2 9 o i = nI pl := by
  intro n
  induction n with
  | zero =>
    constructor
    · intro h; cases h
    · rintro ⟨i, hi, -⟩; omega
  | succ n ih =>
    unfold q_has
    rw [Bool.or_eq_true, ih]
    constructor
    · rintro (⟨i, h1, h2⟩ | h)
      · exact ⟨i, by omega, h2⟩
      · simp only [Bool.and_eq_true, decide_eq_true_eq] at h
        exact ⟨n, by omega, h⟩
    · rintro ⟨i, h1, h2⟩
      by_cases hi : i = n
      · subst hi
        right
        simpa only [Bool.and_eq_true, decide_eq_true_eq] using h2
      · left
        exact ⟨i, by omega, h2⟩
theorem iL.has {S : sp} {o p pl : Nat} (h : iL S o) (hp : p < S.1 5 o 0) (hg : S.1 5 o 0 < 1000) (hl : S.1 6 o 0 < 2000) (hpl : pl < 1000) : q_has S o p pl (S.1 6 o 0) = decide (pl < S.1 15 o p) := by
  obtain ⟨hB, hC, hD, hE, hK⟩ := h
  apply Bool.eq_iff_iff.mpr
  rw [q_has_ex, decide_eq_true_eq]
  constructor
  · rintro ⟨i, h1, h2, h3⟩
    obtain ⟨q, q1, q2, q3⟩ := hC i h1
    obtain ⟨r1, r2, r3⟩ := hB q q1 (i - S.1 14 o q) (by omega)
    rw [show S.1 14 o q + (i - S.1 14 o q) = i by omega] at r1 r2 r3
    obtain rfl := (nI_inj (a := q) (b := p) (by omega) (by omega)).mp (r2.symm.trans h2)
    have := (nI_inj (a := i - S.1 14 o q) (b := pl) (by omega) (by omega)).mp (r3.symm.trans h3)
    omega
  · intro hlt
    obtain ⟨r1, r2, r3⟩ := hB p hp pl hlt
    exact ⟨_, r1, r2, r3⟩
/-- the last block ends where the lines end -/
theorem iL.last {S : sp} {o p : Nat} (h : iL S o) (hp : p < S.1 5 o 0) (h0 : 0 < S.1 15 o p) (hF : ∀ q, p < q → q < S.1 5 o 0 → S.1 15 o q = 0) : S.1 14 o p + S.1 15 o p = S.1 6 o 0 := by
  obtain ⟨hB, hC, hD, hE, hK⟩ := h
  have b1 := (hB p hp (S.1 15 o p - 1) (by omega)).1
  obtain ⟨q, q1, q2, q3⟩ := hC (S.1 6 o 0 - 1) (by omega)
  have hqp : q = p := by
    rcases Nat.lt_trichotomy q p with hlt | he | hgt
    · have := hD q p hlt hp (by omega) h0
      omega
    · exact he
    · have := hF q hgt q1
      omega
  subst hqp
  omega
/-- a row that comes to lines -/
theorem iL.come {S : sp} {o p pl r : Nat} (h : iL S o) (hs : S.2 1 o 0 = 0) (hp : p < S.1 5 o 0) (hg : S.1 5 o 0 < 1000) (hl : S.1 6 o 0 < 2000) (hpl : pl ≤ S.1 15 o p) (hp2 : pl < 1000) (hF : ∀ q, p < q → q < S.1 5 o 0 → S.1 15 o q = 0) (hkey : 0 ≤ S.2 4 r 3 ∧ S.2 4 r 3 < 10) : iL (sp_come S o p pl r).2 o ∧ (sp_come S o p pl r).2.1 15 o p = (if S.1 15 o p ≤ pl then pl + 1 else S.1 15 o p) ∧ (∀ b c, ¬ (b = o ∧ c = p) → (sp_come S o p pl r).2.1 15 b c = S.1 15 b c) := by
  have hh := h.has hp hg hl hp2
  have ec : sp_come S o p pl r = ((sp_line S o p pl r).1, sp_gh S (sp_line S o p pl r).2 o p pl) := by unfold sp_come; rw [if_pos hs]
  rw [ec]
  have e15 : ∀ T : sp, (sp_gh S T o p pl).1 15 o p = (if S.1 15 o p ≤ pl then pl + 1 else S.1 15 o p) := by
    intro T; unfold sp_gh; simp [sN_1]
  have e15n : ∀ (T : sp) (b c : Nat), ¬ (b = o ∧ c = p) → (sp_gh S T o p pl).1 15 b c = T.1 15 b c := by
    intro T b c hbc
    unfold sp_gh
    split <;> simp [sN_1, hbc]
  by_cases hlt : pl < S.1 15 o p
  · have el : sp_line S o p pl r = (0, S) := by unfold sp_line; rw [if_pos (by rw [hh]; simpa using hlt)]
    rw [el]
    refine ⟨?_, e15 S, e15n S⟩
    show iL (sp_gh S S o p pl) o
    have eS : ∀ a b c, (sp_gh S S o p pl).1 a b c = S.1 a b c := by
      intro a b c
      unfold sp_gh
      rw [if_neg (by omega), if_neg (by omega), sN_1]
      split
      · rename_i q; obtain ⟨rfl, rfl, rfl⟩ := q; rfl
      · rfl
    have eV : ∀ a b c, (sp_gh S S o p pl).2 a b c = S.2 a b c := by
      intro a b c
      unfold sp_gh
      split <;> rfl
    unfold iL at h ⊢
    simp only [eS, eV]
    exact h
  · have hple : pl = S.1 15 o p := by omega
    have el : sp_line S o p pl r = (1, sN (sV (sV (sV (sV S 6 o (S.1 6 o 0) (S.2 4 r 3)) 7 o (S.1 6 o 0) (S.2 4 r 4)) 8 o (S.1 6 o 0) (nI p)) 9 o (S.1 6 o 0) (nI pl)) 6 o 0 (S.1 6 o 0 + 1)) := by
      unfold sp_line; rw [if_neg (by rw [hh]; simpa using hlt)]
    rw [el]
    refine ⟨?_, e15 _, fun b c hbc => by rw [e15n _ b c hbc]; simp [sN_1, sV_1]⟩
    obtain ⟨T, hT⟩ : ∃ T, T = sp_gh S (sN (sV (sV (sV (sV S 6 o (S.1 6 o 0) (S.2 4 r 3)) 7 o (S.1 6 o 0) (S.2 4 r 4)) 8 o (S.1 6 o 0) (nI p)) 9 o (S.1 6 o 0) (nI pl)) 6 o 0 (S.1 6 o 0 + 1)) o p pl := ⟨_, rfl⟩
    show iL (sp_gh S _ o p pl) o
    rw [← hT]
    have t5 : T.1 5 o 0 = S.1 5 o 0 := by rw [hT]; unfold sp_gh; split <;> simp [sN_1, sV_1]
    have t6 : T.1 6 o 0 = S.1 6 o 0 + 1 := by rw [hT]; unfold sp_gh; split <;> simp [sN_1, sV_1]
    have t15 : T.1 15 o p = S.1 15 o p + 1 := by rw [hT, e15, if_pos (by omega)]; omega
    have t15n : ∀ q, q ≠ p → T.1 15 o q = S.1 15 o q := fun q hq => by rw [hT, e15n _ o q (by omega)]; simp [sN_1, sV_1]
    have t14 : T.1 14 o p + S.1 15 o p = S.1 6 o 0 := by
      rw [hT]
      unfold sp_gh
      split
      · rename_i hz; simp [sN_1, hz]
      · rename_i hz
        have := h.last hp (by omega) hF
        simp [sN_1, sV_1]; omega
    have t14p : 0 < S.1 15 o p → T.1 14 o p = S.1 14 o p := fun hz => by
      have := h.last hp hz hF
      omega
    have t14n : ∀ q, q ≠ p → T.1 14 o q = S.1 14 o q := fun q hq => by
      rw [hT]; unfold sp_gh
      split <;> simp [sN_1, sV_1, hq]
    have v6 : T.2 6 o (S.1 6 o 0) = S.2 4 r 3 := by rw [hT]; unfold sp_gh; split <;> simp [sN_2, sV_2]
    have v8 : T.2 8 o (S.1 6 o 0) = nI p := by rw [hT]; unfold sp_gh; split <;> simp [sN_2, sV_2]
    have v9 : T.2 9 o (S.1 6 o 0) = nI pl := by rw [hT]; unfold sp_gh; split <;> simp [sN_2, sV_2]
    have vn : ∀ a i, i < S.1 6 o 0 → (a = 6 ∨ a = 8 ∨ a = 9) → T.2 a o i = S.2 a o i := fun a i hi ha => by
      have hne : ¬ i = S.1 6 o 0 := by omega
      rw [hT]; unfold sp_gh
      split <;> simp [sN_2, sV_2, hne]
    clear hT e15 e15n el ec
    obtain ⟨hB, hC, hD, hE, hK⟩ := id h
    refine ⟨fun q hq j hj => ?_, fun i hi => ?_, fun q q' hqq hq' h0 h0' => ?_, ?_, fun i hi => ?_⟩
    · rw [t5] at hq
      by_cases hqp : q = p
      · subst hqp
        rw [t15] at hj
        by_cases hjl : j = S.1 15 o q
        · subst hjl
          rw [t14, t6]
          exact ⟨by omega, v8, by rw [v9, hple]⟩
        · have hz : 0 < S.1 15 o q := by omega
          obtain ⟨r1, r2, r3⟩ := hB q hq j (by omega)
          rw [t14p hz, t6, vn 8 _ r1 (by omega), vn 9 _ r1 (by omega)]
          exact ⟨by omega, r2, r3⟩
      · rw [t15n q hqp] at hj
        obtain ⟨r1, r2, r3⟩ := hB q hq j hj
        rw [t14n q hqp, t6, vn 8 _ r1 (by omega), vn 9 _ r1 (by omega)]
        exact ⟨by omega, r2, r3⟩
    · rw [t6] at hi
      by_cases hi2 : i = S.1 6 o 0
      · subst hi2
        exact ⟨p, by rw [t5]; exact hp, by omega, by rw [t15]; omega⟩
      · obtain ⟨q, q1, q2, q3⟩ := hC i (by omega)
        by_cases hqp : q = p
        · subst hqp
          have := t14p (by omega)
          exact ⟨q, by rw [t5]; exact q1, by omega, by rw [t15]; omega⟩
        · exact ⟨q, by rw [t5]; exact q1, by rw [t14n q hqp]; exact q2, by rw [t14n q hqp, t15n q hqp]; exact q3⟩
    · rw [t5] at hq'
      by_cases h1 : q = p
      · subst h1
        have := hF q' hqq hq'
        rw [t15n q' (by omega)] at h0'
        omega
      · by_cases h2 : q' = p
        · subst h2
          rw [t15n q h1] at h0
          rw [t14n q h1, t15n q h1]
          obtain ⟨r1, -⟩ := hB q (by omega) (S.1 15 o q - 1) (by omega)
          by_cases hz : 0 < S.1 15 o q'
          · have := hD q q' hqq hq' h0 hz
            have := t14p hz
            omega
          · omega
        · rw [t15n q h1] at h0 ⊢
          rw [t15n q' h2] at h0'
          rw [t14n q h1, t14n q' h2]
          exact hD q q' hqq hq' h0 h0'
    · rw [t6, t5, hE]
      symm
      exact sum_up hp (fun i _ hi => t15n i hi) t15
    · rw [t6] at hi
      by_cases hi2 : i = S.1 6 o 0
      · subst hi2; rw [v6]; exact hkey
      · rw [vn 6 i (by omega) (by omega)]
        exact hK i (by omega)
