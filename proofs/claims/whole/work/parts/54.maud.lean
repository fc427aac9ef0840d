/-! The model: audit finds nothing. -/
def q_lp (S : sp) (o p : Nat) : Nat → Nat
  | 0 => 0
  | i + 1 => q_lp S o p i + (if S.2 8 o i = nI p then 1 else 0)
theorem q_lp_c {S : sp} {o p a b : Nat} : ∀ n, (∀ i, i < n → (S.2 8 o i = nI p ↔ a ≤ i ∧ i < a + b)) → q_lp S o p n = if n ≤ a then 0 else if n ≤ a + b then n - a else b := by
  intro n
  induction n with
  | zero => intro _; rw [if_pos (Nat.zero_le _)]; rfl
  | succ n ih =>
    intro h
    unfold q_lp
    rw [ih (fun i hi => h i (by omega))]
    by_cases hc : S.2 8 o n = nI p
    · have := (h n (by omega)).mp hc
      rw [if_pos hc]
      split <;> split <;> (try split) <;> (try split) <;> omega
    · have : ¬ (a ≤ n ∧ n < a + b) := fun q => hc ((h n (by omega)).mpr q)
      rw [if_neg hc]
      split <;> split <;> (try split) <;> (try split) <;> omega
/-- a line: its part and place -/
theorem iL.at {S : sp} {o i : Nat} (h : iL S o) (hi : i < S.1 6 o 0) : ∃ p, p < S.1 5 o 0 ∧ S.2 8 o i = nI p ∧ S.1 14 o p ≤ i ∧ i < S.1 14 o p + S.1 15 o p ∧ S.2 9 o i = nI (i - S.1 14 o p) := by
  obtain ⟨p, p1, p2, p3⟩ := h.2.1 i hi
  obtain ⟨q1, q2, q3⟩ := h.1 p p1 (i - S.1 14 o p) (by omega)
  rw [show S.1 14 o p + (i - S.1 14 o p) = i by omega] at q2 q3
  exact ⟨p, p1, q2, p2, p3, q3⟩
theorem iL.lp {S : sp} {o p : Nat} (h : iL S o) (hp : p < S.1 5 o 0) (hg : S.1 5 o 0 < 1000) : q_lp S o p (S.1 6 o 0) = S.1 15 o p := by
  rw [q_lp_c (a := S.1 14 o p) (b := S.1 15 o p) (S.1 6 o 0) (fun i hi => ?_)]
  · by_cases h0 : S.1 15 o p = 0
    · rw [h0]
      split
      · rfl
      · split <;> omega
    · have := (h.1 p hp (S.1 15 o p - 1) (by omega)).1
      rw [if_neg (by omega)]
      split <;> omega
  · obtain ⟨q, q1, q2, q3, q4, q5⟩ := h.at hi
    constructor
    · intro e
      obtain rfl := (nI_inj (a := q) (b := p) (by omega) (by omega)).mp (q2.symm.trans e)
      exact ⟨q3, q4⟩
    · intro e
      have := (h.1 p hp (i - S.1 14 o p) (by omega)).2.1
      rw [show S.1 14 o p + (i - S.1 14 o p) = i by omega] at this
      exact this
section MAu
variable {M n s : Nat} {mem : Nat → am_C} {pd : Int32} {S : sp} {h : am_H} {c : Nat}
theorem k_lacks (P : Nat × Nat) (hs : MS M n s mem pd h S) (hk : KI S c) (hc : c < 100) {o p : Nat} (ho : o < S.1 0 0 0) (hp : p < S.1 5 o 0) (h2 : S.1 11 o p = 2) : am_E P 110 0 [some (.ref M), some (.int (nI o)), some (.int (nI p)), none, none, none] [] h = some (some (.int 0), h) := by
  obtain ⟨f, F, hv, hf, hF, hpd⟩ := id hs
  have h3 := hk.1.1.1.2.2.1
  have ho3 : o < 3 := by omega
  have hgv := (hk.gv hc o).1
  have hnr := (hk.gv hc 0).2
  obtain ⟨g1, g2, g3, g4, g5, g6⟩ := hF.1 o ho3
  have f2 := hf.2.1
  have hiP := hk.1.1.1.2.2.2.2.1 o p ho hp
  obtain ⟨b1, b2, b3, b4, b5, b6⟩ := hk.1.1.1.1.1 o p ho3 hp
  have hsrt := (hk.1.2.2.2.2.2.2.2.2.2.1 o ho).1
  have hlc := hiP.2.2.2.1 h2
  have loop1 : ∀ k r, r + k = S.1 1 0 0 → am_E P 110 8 [some (.ref M), some (.int (nI o)), some (.int (nI p)), some (.int (nI (if S.2 1 o 0 = 1 then q_rows S (nI o) (nI p) r else 0))), some (.int (nI (q_rows S (nI o) (nI p) r))), some (.int (nI r))] [] h = am_E P 110 97 [some (.ref M), some (.int (nI o)), some (.int (nI p)), some (.int (nI (if S.2 1 o 0 = 1 then S.1 10 o p else 0))), some (.int (nI (S.1 10 o p))), some (.int (nI (S.1 1 0 0)))] [] h := by
    intro k
    induction k with
    | zero =>
      intro r hr
      obtain rfl : r = S.1 1 0 0 := by omega
      have c1 : nI (S.1 1 0 0) ≤ nI (S.1 1 0 0) := Int32.le_refl _
      conv => lhs; rw [hd110_8]
      rw [b6]
      simp only [r110, hv.g, mo_g, f2, Option.bind_some, if_pos c1]
    | succ k ih =>
      intro r hr
      have ih := ih (r + 1) (by omega)
      rw [← ih]
      have c1 : ¬ nI (S.1 1 0 0) ≤ nI r := nI_ge (by omega) (by omega)
      obtain ⟨y0, y1, y2, y3, y4⟩ := hF.2.2.1 r (by omega)
      have q1 : r < 4000 := by omega
      have hst : q_rows S (nI o) (nI p) (r + 1) = q_rows S (nI o) (nI p) r + (if S.2 4 r 0 = 0 ∧ S.2 4 r 1 = nI o ∧ S.2 4 r 2 = nI p then 1 else 0) := rfl
      rw [hst]
      conv => lhs; rw [hd110_8]
      by_cases hc9 : S.2 4 r 0 = 0 ∧ S.2 4 r 1 = nI o ∧ S.2 4 r 2 = nI p
      · rw [if_pos hc9]
        obtain ⟨z0, z1, z2⟩ := hc9
        have hin := (b4 r (by omega)).mp ⟨z0, z1, z2⟩
        by_cases hs1 : S.2 1 o 0 = 1
        · have hit := (hk.1.1.1.2.2.2.2.2.1 o ho).2.2 (by rw [hs1]; decide)
          obtain ⟨x, x1, x2, x3⟩ := key_nat (hk.1.1.1.1.2.2.2.2.1 r (by omega) z0)
          obtain ⟨q, q2, q3, q4⟩ := hit.2.2 p hp (r - S.1 9 o p) (by omega)
          rw [show S.1 9 o p + (r - S.1 9 o p) = r by omega, x3] at q3
          have ix : (10 : Int32) * nI o + nI x = nI (10 * o + x) := by rw [show (10 : Int32) = nI 10 from rfl, nI_m, nI_add]
          have gk := (hF.2.2.2.2.1 o x ho3 x1).1
          rw [q3] at gk
          have nlt : ¬ nI q < nI p := fun w => by
            have := (nI_ltI (by omega) (by omega)).mp w
            omega
          simp only [if_pos hs1, r110, hv.g, mo_g, f2, Option.bind_some, if_neg c1, hv.ld 8 (by decide) (by decide) (q := r) q1, hv.ld 9 (by decide) (by decide) (q := r) q1, hv.ld 10 (by decide) (by decide) (q := r) q1, y0, y1, y2, z0, z1, z2, if_true, hv.ld 1 (by decide) (by decide) (q := o) (show _ < 3 from ho3), g1, hs1, hv.ld 11 (by decide) (by decide) (q := r) q1, y3, x2, ix, hv.ld 18 (by decide) (by decide) (q := 10 * o + x) (show _ < 30 by omega), gk, if_neg nlt, nI_1]
        · simp only [if_neg hs1, r110, hv.g, mo_g, f2, Option.bind_some, if_neg c1, hv.ld 8 (by decide) (by decide) (q := r) q1, hv.ld 9 (by decide) (by decide) (q := r) q1, hv.ld 10 (by decide) (by decide) (q := r) q1, y0, y1, y2, z0, z1, z2, if_true, hv.ld 1 (by decide) (by decide) (q := o) (show _ < 3 from ho3), g1, if_neg hs1, nI_1]
      · rw [if_neg hc9]
        simp only [r110, hv.g, mo_g, f2, Option.bind_some, if_neg c1, hv.ld 8 (by decide) (by decide) (q := r) q1, hv.ld 9 (by decide) (by decide) (q := r) q1, hv.ld 10 (by decide) (by decide) (q := r) q1, y0, y1, y2, nI_1, Nat.add_zero]
        by_cases q0 : S.2 4 r 0 = 0
        · by_cases q1 : S.2 4 r 1 = nI o
          · by_cases q2 : S.2 4 r 2 = nI p
            · exact absurd ⟨q0, q1, q2⟩ hc9
            · simp only [q0, q1, q2, if_true, if_false]
          · simp only [q0, q1, if_true, if_false]
        · simp only [q0, if_false]
  have loop2 : ∀ k i, i + k = S.1 6 o 0 → ∀ t, am_E P 110 100 [some (.ref M), some (.int (nI o)), some (.int (nI p)), some (.int (nI (t + q_lp S o p i))), some (.int (nI (S.1 10 o p))), some (.int (nI i))] [] h = some (some (.int (nI (S.1 10 o p) - nI (t + q_lp S o p (S.1 6 o 0)))), h) := by
    intro k
    induction k with
    | zero =>
      intro i hi t
      obtain rfl : i = S.1 6 o 0 := by omega
      have c1 : nI (S.1 6 o 0) ≤ nI (S.1 6 o 0) := Int32.le_refl _
      rw [hd110_100]
      simp only [r110, hv.g, mo_g, Option.bind_some, hv.ld 13 (by decide) (by decide) (q := o) (show _ < 3 from ho3), g6, if_pos c1]
    | succ k ih =>
      intro i hi t
      have ih := ih (i + 1) (by omega) t
      rw [← ih]
      have hnl := hk.1.1.1.lines o
      have c1 : ¬ nI (S.1 6 o 0) ≤ nI i := nI_ge (by omega) (by omega)
      have hfr : nI o * 100 * 20 + nI i = nI (2000 * o + i) := by
        rw [show (100 : Int32) = nI 100 from rfl, show (20 : Int32) = nI 20 from rfl, nI_m, nI_m, nI_add]
        congr 1
        omega
      have y3 := (hF.2.2.2.1 o i ho3 (by omega)).2.2.1
      conv => lhs; rw [hd110_100]
      simp only [r110, hv.g, mo_g, Option.bind_some, hv.ld 13 (by decide) (by decide) (q := o) (show _ < 3 from ho3), g6, if_neg c1, hfr, hv.ld 16 (by decide) (by decide) (q := 2000 * o + i) (show _ < 6000 by omega), y3]
      rw [show q_lp S o p (i + 1) = q_lp S o p i + (if S.2 8 o i = nI p then 1 else 0) from rfl]
      by_cases c2 : S.2 8 o i = nI p
      · simp only [c2, if_true, r110, nI_1, Nat.add_assoc]
      · simp only [c2, if_false, r110, Int32.add_zero, Nat.add_zero, nI_1]
  have l1 := loop1 _ 0 (Nat.zero_add _)
  have zz : (0 : Int32) = nI 0 := rfl
  have e0 : nI (if S.2 1 o 0 = 1 then q_rows S (nI o) (nI p) 0 else 0) = 0 := by split <;> rfl
  have e1 : nI (q_rows S (nI o) (nI p) 0) = 0 := rfl
  rw [e0, e1, ← zz] at l1
  have l2 := loop2 _ 0 (Nat.zero_add _) (if S.2 1 o 0 = 1 then S.1 10 o p else 0)
  rw [show q_lp S o p 0 = 0 from rfl, Nat.add_zero, ← zz] at l2
  simp only [r110]
  rw [l1]
  simp only [r110]
  rw [l2]
  have fin : (if S.2 1 o 0 = 1 then S.1 10 o p else 0) + q_lp S o p (S.1 6 o 0) = S.1 10 o p := by
    rcases hsrt with e | e
    · have hil := (hk.1.1.1.2.2.2.2.2.1 o ho).2.1 e
      rw [hil.lp hp (by omega), e, if_neg (by decide)]
      omega
    · have hit := (hk.1.1.1.2.2.2.2.2.1 o ho).2.2 (by rw [e]; decide)
      rw [if_pos e, hit.1]
      rfl
  rw [fin, Int32.sub_self]
theorem k_audit (P : Nat × Nat) (hs : MS M n s mem pd h S) (hk : KI S c) (hc : c < 100) : am_E P 109 0 [some (.ref M), none, none, none, none, none, none] [] h = some (some (.int 0), h) := by
  obtain ⟨f, F, hv, hf, hF, hpd⟩ := id hs
  have h3 := hk.1.1.1.2.2.1
  have hnr := (hk.gv hc 0).2
  have f1 := hf.1
  have f4 := hf.2.2.2.1
  have zz : (0 : Int32) = nI 0 := rfl
  -- an output's lines
  have loopJ : ∀ o i, o < S.1 0 0 0 → i < S.1 6 o 0 → iL S o → ∀ k j l5, j + k = i → am_E P 109 77 [some (.ref M), some (.int 0), some (.int (nI o)), some (.int (nI (2000 * o))), some (.int (nI (2000 * o + i))), l5, some (.int (nI (2000 * o + j)))] [] h = am_E P 109 132 [some (.ref M), some (.int 0), some (.int (nI o)), some (.int (nI (2000 * o))), some (.int (nI (2000 * o + i))), l5, some (.int (nI (2000 * o + i)))] [] h := by
    intro o i ho hi hil k
    have ho3 : o < 3 := by omega
    have hnl := hk.1.1.1.lines o
    induction k with
    | zero =>
      intro j l5 hj
      obtain rfl : j = i := by omega
      have c1 : nI (2000 * o + j) ≤ nI (2000 * o + j) := Int32.le_refl _
      conv => lhs; rw [hd109_77]
      simp only [r109, if_pos c1]
    | succ k ih =>
      intro j l5 hj
      have ih := ih (j + 1) l5 (by omega)
      rw [← ih]
      have c1 : ¬ nI (2000 * o + i) ≤ nI (2000 * o + j) := nI_ge (by omega) (by omega)
      obtain ⟨-, -, y3, y4⟩ := hF.2.2.2.1 o i ho3 hi
      obtain ⟨-, -, w3, w4⟩ := hF.2.2.2.1 o j ho3 (by omega)
      obtain ⟨p, p1, p2, p3, p4, p5⟩ := hil.at hi
      obtain ⟨q, q1, q2, q3, q4, q5⟩ := hil.at (i := j) (by omega)
      have hg := (hk.gv hc o).1
      conv => lhs; rw [hd109_77]
      simp only [r109, if_neg c1, hv.g, mo_g, Option.bind_some, hv.ld 16 (by decide) (by decide) (q := 2000 * o + j) (show _ < 6000 by omega), hv.ld 16 (by decide) (by decide) (q := 2000 * o + i) (show _ < 6000 by omega), hv.ld 17 (by decide) (by decide) (q := 2000 * o + j) (show _ < 6000 by omega), hv.ld 17 (by decide) (by decide) (q := 2000 * o + i) (show _ < 6000 by omega), y3, y4, w3, w4, p2, p5, q2, q5, Int32.add_zero, nI_1, Nat.add_assoc]
      by_cases e1 : nI q = nI p
      · obtain rfl := (nI_inj (a := q) (b := p) (by omega) (by omega)).mp e1
        have e2 : nI (j - S.1 14 o q) < nI (i - S.1 14 o q) := nI_lt (by omega) (by omega)
        simp only [if_true, if_pos e2]
      · simp only [if_neg e1]
  have loopK : ∀ o, o < S.1 0 0 0 → iL S o → ∀ k i l5 l6, i + k = S.1 6 o 0 → ∃ a4 a5 a6, am_E P 109 23 [some (.ref M), some (.int 0), some (.int (nI o)), some (.int (nI (2000 * o))), some (.int (nI (2000 * o + i))), l5, l6] [] h = am_E P 109 138 [some (.ref M), some (.int 0), some (.int (nI o)), some (.int (nI (2000 * o))), a4, a5, a6] [] h := by
    intro o ho hil k
    have ho3 : o < 3 := by omega
    have hnl := hk.1.1.1.lines o
    obtain ⟨g1, g2, g3, g4, g5, g6⟩ := hF.1 o ho3
    induction k with
    | zero =>
      intro i l5 l6 hi
      obtain rfl : i = S.1 6 o 0 := by omega
      refine ⟨some (.int (nI (2000 * o + S.1 6 o 0))), l5, l6, ?_⟩
      have c1 : nI (2000 * o + S.1 6 o 0) ≤ nI (2000 * o + S.1 6 o 0) := Int32.le_refl _
      conv => lhs; rw [hd109_23]
      simp only [r109, hv.g, mo_g, Option.bind_some, hv.ld 13 (by decide) (by decide) (q := o) (show _ < 3 from ho3), g6, nI_add, if_pos c1]
    | succ k ih =>
      intro i l5 l6 hi
      obtain ⟨p, p1, p2, p3, p4, p5⟩ := hil.at (i := i) (by omega)
      have hg := (hk.gv hc o).1
      have hiP := hk.1.1.1.2.2.2.2.1 o p ho p1
      have hl0 : 0 < S.1 15 o p := by omega
      have hps : S.1 11 o p ≠ 0 := fun q => by have := hiP.2.2.2.2.1 (Or.inl q); omega
      obtain ⟨x1, x2, x3⟩ := co_st hk.1.1 ho p1
      obtain ⟨x4, x5⟩ := x3 hps
      have kmk := k_markOf P hs (by omega) (nI o) (nI p)
      rw [x4] at kmk
      have hle := hiP.2.2.2.2.2.2 hl0
      have n6 : ¬ S.2 13 o p = -6 := by
        intro q
        rw [q, i_le, nm_m6] at x5
        have z0 : (0 : Int32).toInt = 0 := rfl
        omega
      obtain ⟨a4, a5, a6, ih⟩ := ih (i + 1) (some (.int (S.2 13 o p))) (some (.int (nI (2000 * o + i)))) (by omega)
      refine ⟨a4, a5, a6, ?_⟩
      rw [← ih]
      have c1 : ¬ nI (2000 * o + S.1 6 o 0) ≤ nI (2000 * o + i) := nI_ge (by omega) (by omega)
      obtain ⟨-, -, y3, -⟩ := hF.2.2.2.1 o i ho3 (by omega)
      have go : am_E P 109 23 [some (.ref M), some (.int 0), some (.int (nI o)), some (.int (nI (2000 * o))), some (.int (nI (2000 * o + i))), l5, l6] [] h = am_E P 109 77 [some (.ref M), some (.int 0), some (.int (nI o)), some (.int (nI (2000 * o))), some (.int (nI (2000 * o + i))), some (.int (S.2 13 o p)), some (.int (nI (2000 * o + 0)))] [] h := by
        conv => lhs; rw [hd109_23]
        simp only [r109, hv.g, mo_g, Option.bind_some, hv.ld 13 (by decide) (by decide) (q := o) (show _ < 3 from ho3), g6, nI_add, if_neg c1, hv.ld 16 (by decide) (by decide) (q := 2000 * o + i) (show _ < 6000 by omega), y3, p2, hv.c, if_true, kmk, Option.toList_some, List.cons_append, List.nil_append, if_neg n6, f4, if_pos hle, Int32.add_zero, Nat.add_zero]
      rw [go, loopJ o i ho (by omega) hil i 0 _ (Nat.zero_add _)]
      simp only [r109, nI_1, Nat.add_assoc]
  have loopP : ∀ o, o < S.1 0 0 0 → ∀ k i l3 l5 l6, i + k = S.1 5 o 0 → ∃ a4, am_E P 109 141 [some (.ref M), some (.int 0), some (.int (nI o)), l3, some (.int (nI i)), l5, l6] [] h = am_E P 109 183 [some (.ref M), some (.int 0), some (.int (nI o)), l3, a4, l5, l6] [] h := by
    intro o ho k
    have ho3 : o < 3 := by omega
    obtain ⟨g1, g2, g3, g4, g5, g6⟩ := hF.1 o ho3
    have hg := (hk.gv hc o).1
    induction k with
    | zero =>
      intro i l3 l5 l6 hi
      obtain rfl : i = S.1 5 o 0 := by omega
      refine ⟨some (.int (nI (S.1 5 o 0))), ?_⟩
      have c1 : nI (S.1 5 o 0) ≤ nI (S.1 5 o 0) := Int32.le_refl _
      conv => lhs; rw [hd109_141]
      simp only [r109, hv.g, mo_g, Option.bind_some, hv.ld 5 (by decide) (by decide) (q := o) (show _ < 3 from ho3), g3, if_pos c1]
    | succ k ih =>
      intro i l3 l5 l6 hi
      obtain ⟨a4, ih⟩ := ih (i + 1) l3 l5 l6 (by omega)
      refine ⟨a4, ?_⟩
      rw [← ih]
      have c1 : ¬ nI (S.1 5 o 0) ≤ nI i := nI_ge (by omega) (by omega)
      obtain ⟨x1, x2, x3⟩ := co_st hk.1.1 ho (p := i) (by omega)
      have kst := k_stateOf P hs (by omega) (nI o) (nI i)
      rw [x1] at kst
      conv => lhs; rw [hd109_141]
      by_cases e2 : S.1 11 o i = 2
      · have kl := k_lacks P hs hk hc ho (p := i) (by omega) e2
        have n2 : nI (S.1 11 o i) = 2 := by rw [e2]; rfl
        simp only [r109, hv.g, mo_g, Option.bind_some, hv.ld 5 (by decide) (by decide) (q := o) (show _ < 3 from ho3), g3, if_neg c1, hv.c, if_true, kst, Option.toList_some, List.cons_append, List.nil_append, n2, kl, Int32.add_zero, nI_1]
      · have n2 : ¬ nI (S.1 11 o i) = 2 := fun q => e2 ((nI_inj (b := 2) (by omega) (by decide)).mp q)
        simp only [r109, hv.g, mo_g, Option.bind_some, hv.ld 5 (by decide) (by decide) (q := o) (show _ < 3 from ho3), g3, if_neg c1, hv.c, if_true, kst, Option.toList_some, List.cons_append, List.nil_append, if_neg n2, Int32.add_zero, nI_1]
  have loopO : ∀ k o l3 l4 l5 l6, o + k = S.1 0 0 0 → am_E P 109 4 [some (.ref M), some (.int 0), some (.int (nI o)), l3, l4, l5, l6] [] h = some (some (.int 0), h) := by
    intro k
    induction k with
    | zero =>
      intro o l3 l4 l5 l6 ho
      obtain rfl : o = S.1 0 0 0 := by omega
      have c1 : nI (S.1 0 0 0) ≤ nI (S.1 0 0 0) := Int32.le_refl _
      rw [hd109_4]
      simp only [r109, hv.g, mo_g, f1, Option.bind_some, if_pos c1]
    | succ k ih =>
      intro o l3 l4 l5 l6 ho
      have ho0 : o < S.1 0 0 0 := by omega
      have ho3 : o < 3 := by omega
      have c1 : ¬ nI (S.1 0 0 0) ≤ nI o := nI_ge (by omega) (by omega)
      have hfr : nI o * 100 * 20 = nI (2000 * o) := by
        rw [show (100 : Int32) = nI 100 from rfl, show (20 : Int32) = nI 20 from rfl, nI_m, nI_m]
        congr 1
        omega
      obtain ⟨g1, g2, g3, g4, g5, g6⟩ := hF.1 o ho3
      have hlines : ∃ a4 a5 a6, am_E P 109 23 [some (.ref M), some (.int 0), some (.int (nI o)), some (.int (nI (2000 * o))), some (.int (nI (2000 * o))), l5, l6] [] h = am_E P 109 138 [some (.ref M), some (.int 0), some (.int (nI o)), some (.int (nI (2000 * o))), a4, a5, a6] [] h := by
        by_cases hsrt : S.2 1 o 0 = 0
        · have := loopK o ho0 ((hk.1.1.1.2.2.2.2.2.1 o ho0).2.1 hsrt) (S.1 6 o 0) 0 l5 l6 (Nat.zero_add _)
          rwa [Nat.add_zero] at this
        · have h0 := ((hk.1.1.1.2.2.2.2.2.1 o ho0).2.2 hsrt).1
          refine ⟨some (.int (nI (2000 * o))), l5, l6, ?_⟩
          have c2 : nI (2000 * o) ≤ nI (2000 * o) := Int32.le_refl _
          conv => lhs; rw [hd109_23]
          simp only [r109, hv.g, mo_g, Option.bind_some, hv.ld 13 (by decide) (by decide) (q := o) (show _ < 3 from ho3), g6, h0, nI_add, Nat.add_zero, if_pos c2]
      obtain ⟨a4, a5, a6, hl⟩ := hlines
      obtain ⟨b4, hp⟩ := loopP o ho0 (S.1 5 o 0) 0 (some (.int (nI (2000 * o)))) a5 a6 (Nat.zero_add _)
      rw [← zz] at hp
      rw [hd109_4]
      simp only [r109, hv.g, mo_g, f1, Option.bind_some, if_neg c1, hfr]
      rw [hl]
      simp only [r109]
      rw [hp]
      simp only [r109, nI_1]
      exact ih (o + 1) _ _ _ _ (by omega)
  have l0 := loopO _ 0 none none none none (Nat.zero_add _)
  rw [← zz] at l0
  simp only [r109]
  exact l0
end MAu
