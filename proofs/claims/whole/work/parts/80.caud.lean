/-! The class: audit finds nothing. -/
/-- a line's place: how many lines of its part stand ahead -/
theorem iL.lpi {S : sp} {o i p : Nat} (h : iL S o) (hi : i < S.1 6 o 0) (hg : S.1 5 o 0 < 1000) (hp : p < S.1 5 o 0) (h1 : S.1 14 o p ≤ i) (h2 : i < S.1 14 o p + S.1 15 o p) : q_lp S o p i = i - S.1 14 o p := by
  rw [q_lp_c (a := S.1 14 o p) (b := S.1 15 o p) i (fun i' hi' => ?_)]
  · split
    · omega
    · split <;> omega
  · obtain ⟨q, q1, q2, q3, q4, q5⟩ := h.at (i := i') (by omega)
    constructor
    · intro e
      obtain rfl := (nI_inj (a := q) (b := p) (by omega) (by omega)).mp (q2.symm.trans e)
      exact ⟨q3, q4⟩
    · intro e
      have := (h.1 p hp (i' - S.1 14 o p) (by omega)).2.1
      rw [show S.1 14 o p + (i' - S.1 14 o p) = i' by omega] at this
      exact this
theorem bits : ∀ m, m < 20 → nI (2 ^ m - 1) &&& ((1 : Int32) <<< (nI m &&& 31)) = 0 ∧ nI (2 ^ m - 1) ||| ((1 : Int32) <<< (nI m &&& 31)) = nI (2 ^ (m + 1) - 1) := by decide +kernel
theorem q_lp_S (S : sp) (o p i : Nat) : q_lp S o p (i + 1) = q_lp S o p i + (if S.2 8 o i = nI p then 1 else 0) := rfl
section CAu
variable {P : Nat × Nat} {fx : Nat → Prop} {mem : Nat → am_C} {K : Nat × Nat} {ad : Nat → Nat → Nat → Nat} {h : am_H} {S : sp} {X c : Nat}
theorem SO.rfl' {N : Nat → Nat → Nat → Prop} : SO P ad ad S S N := fun _ _ _ hl _ => ⟨hl, rfl, fun _ hc => hc⟩
theorem c_isCl (hv : CW P fx mem K ad h S) {o p : Nat} (ho : o < S.1 0 0 0) (hg : S.1 5 o 0 < 1000) (hp : p < S.1 5 o 0) (h0 : S.1 11 o p ≠ 0) (h3 : S.1 11 o p ≤ 3) {m : Int32} (hm : S.2 13 o p ≤ m) : am_E P 16 0 [some (.ref (ad 9 o 0)), some (.int (nI p)), some (.int m), none] [] h = some (some (.int 1), h) := by
  have ha := c_ptAt hv ho (by omega) (nI p)
  rw [am_ix_nI hp (by omega)] at ha
  obtain ⟨x, y, hpt⟩ := hv.pt ho hp
  rw [if_neg h0] at hpt
  have c1 : ¬ nI (S.1 11 o p) = 0 := nI_ne0 (by omega) (by omega)
  have c2 : ¬ m < S.2 13 o p := Int32.not_lt.mpr hm
  simp only [r16, cl_of (hv.ou ho), if_true, ha, Option.bind_some, Option.toList, List.nil_append, List.cons_append, o7 hpt, if_neg c1, if_neg c2, or_true]
theorem c_only (hv : CW P fx mem K ad h S) {o : Nat} (ho : o < S.1 0 0 0) (hg : S.1 5 o 0 < 1000) (hn : S.1 6 o 0 ≤ 20000) (m : Int32) (h3 : ∀ p, p < S.1 5 o 0 → S.1 11 o p ≤ 3)
    (hL : ∀ i, i < S.1 6 o 0 → ∃ p, p < S.1 5 o 0 ∧ S.2 8 o i = nI p ∧ S.1 11 o p ≠ 0 ∧ S.2 13 o p ≤ m) (hT : ∀ k, k < 10 → S.2 10 o k = -6 ∨ ∃ p, p < S.1 5 o 0 ∧ S.2 10 o k = nI p ∧ S.1 11 o p ≠ 0 ∧ S.2 13 o p ≤ m) : am_E P 15 0 [some (.ref (ad 9 o 0)), some (.int m), none] [] h = some (some (.int 1), h) := by
  obtain ⟨e, N, f, hw, hf⟩ := hv.rwL ho hn
  have c01 : ¬ (1 : Int32) = 0 := by decide
  have keys : ∀ d k, k + d = 10 → am_E P 15 40 [some (.ref (ad 9 o 0)), some (.int m), some (.int (nI k))] [] h = some (some (.int 1), h) := by
    intro d
    induction d with
    | zero =>
      intro k hk
      obtain rfl : k = 10 := by omega
      have c1 : (10 : Int32) ≤ nI 10 := by decide
      rw [hd15_40]
      simp only [r15, if_pos c1, or_true, if_true]
    | succ d ih =>
      intro k hk
      have hk10 : k < 10 := by omega
      have c1 : ¬ (10 : Int32) ≤ nI k := nI_ge (b := 10) hk10 (by decide)
      have i1 := ih (k + 1) (by omega)
      have th := c_thas hv ho hk10
      obtain ⟨fp, p1, p2⟩ := hv.tp ho
      refine Eq.trans ?_ i1
      conv => lhs; rw [hd15_40]
      rcases hT k hk10 with h6 | ⟨p, hp, e1, e2, e3⟩
      · rw [if_pos h6] at th
        simp only [r15, if_neg c1, o10 (hv.ou ho), Option.bind_some, cl_of (hv.tb ho), if_true, th, Option.toList, List.nil_append, List.cons_append, nI_1]
      · have h6 : ¬ S.2 10 o k = -6 := by rw [e1]; exact nI_ne6 (by omega)
        rw [if_neg h6] at th
        have hc := c_isCl hv ho hg hp e2 (h3 p hp) e3
        simp only [r15, if_neg c1, o10 (hv.ou ho), Option.bind_some, o4 (hv.tb ho), if_true, th, Option.toList, List.nil_append, List.cons_append, if_neg c01, iald_I p1 hk10 (by decide), p2 k hk10, e1, hc, nI_1]
  have lines : ∀ d i, i + d = S.1 6 o 0 → am_E P 15 2 [some (.ref (ad 9 o 0)), some (.int m), some (.int (nI i))] [] h = some (some (.int 1), h) := by
    intro d
    induction d with
    | zero =>
      intro i hi
      have c1 : nI (S.1 6 o 0) ≤ nI i := nI_le (by omega) (by omega)
      have k0 := keys 10 0 rfl
      refine Eq.trans ?_ k0
      conv => lhs; rw [hd15_2]
      simp only [r15, o10 (hv.ou ho), Option.bind_some, hv.cntL ho, if_true, Option.toList, List.nil_append, List.cons_append, if_pos c1]
      rfl
    | succ d ih =>
      intro i hi
      have hi1 : i < S.1 6 o 0 := by omega
      have c1 : ¬ nI (S.1 6 o 0) ≤ nI i := nI_ge hi1 (by omega)
      obtain ⟨p, hp, e1, e2, e3⟩ := hL i hi1
      have hc := c_isCl hv ho hg hp e2 (h3 p hp) e3
      have g2 : am_E P 26 0 [some (.ref (ad 14 o 0)), some (.int (nI i)), some (.int 2)] [] h = some (some (.int (nI p)), h) := by
        have := c_cell P hw (i := i) (c := 2) hi1 (by decide)
        rw [(hf i hi1).2.2.1, e1] at this
        exact this
      have i1 := ih (i + 1) (by omega)
      refine Eq.trans ?_ i1
      conv => lhs; rw [hd15_2]
      simp only [r15, o10 (hv.ou ho), Option.bind_some, hv.cntL ho, if_true, Option.toList, List.nil_append, List.cons_append, if_neg c1, g2, hc, if_neg c01, nI_1]
  have l0 := lines _ 0 (Nat.zero_add _)
  refine Eq.trans ?_ l0
  simp only [r15]
  rfl
/-- the parts of an output, by what an audit keeps in them -/
def PX (ad : Nat → Nat → Nat → Nat) (S : sp) (h : am_H) (o : Nat) (x y : Nat → Option Int32) : Prop := ∀ p, p < S.1 5 o 0 → ∃ a b, h.2.2 (ad 20 o p) = ac_O 5 [.int (nI p), .int (nI (S.1 9 o p)), .int (nI (S.1 10 o p)), .int (if S.1 11 o p = 0 then -6 else S.2 13 o p), .int (nI (S.1 11 o p)), .int a, .int b] ∧ (∀ v, x p = some v → a = v) ∧ (∀ v, y p = some v → b = v)
theorem PX.any (hv : CW P fx mem K ad h S) {o : Nat} (ho : o < S.1 0 0 0) : PX ad S h o (fun _ => none) (fun _ => none) := fun p hp => by
  obtain ⟨a, b, e⟩ := hv.pt ho hp
  exact ⟨a, b, e, fun v hx => (by cases hx), fun v hx => (by cases hx)⟩
theorem PX.put (hv : CW P fx mem K ad h S) {o p : Nat} {x y : Nat → Option Int32} (hx : PX ad S h o x y) (ho : o < S.1 0 0 0) (hp : p < S.1 5 o 0) (a b : Int32) : CW P fx mem K ad (ah_put h (ad 20 o p) (ac_O 5 [.int (nI p), .int (nI (S.1 9 o p)), .int (nI (S.1 10 o p)), .int (if S.1 11 o p = 0 then -6 else S.2 13 o p), .int (nI (S.1 11 o p)), .int a, .int b])) S ∧ PX ad S (ah_put h (ad 20 o p) (ac_O 5 [.int (nI p), .int (nI (S.1 9 o p)), .int (nI (S.1 10 o p)), .int (if S.1 11 o p = 0 then -6 else S.2 13 o p), .int (nI (S.1 11 o p)), .int a, .int b])) o (va_up x p (some a)) (va_up y p (some b)) := by
  refine ⟨hv.put 20 o p (fun _ => rfl) ⟨ho, hp⟩ (S' := S) (fun _ => SO.rfl') (fun _ => ⟨a, b, rfl⟩) rfl rfl, fun q hq => ?_⟩
  by_cases hqp : q = p
  · subst hqp
    refine ⟨a, b, ah_same _ _ _, fun v hv => ?_, fun v hv => ?_⟩
    · rw [va_up_self] at hv; cases hv; rfl
    · rw [va_up_self] at hv; cases hv; rfl
  · obtain ⟨a', b', e1, e2, e3⟩ := hx q hq
    have hne : ad 20 o q ≠ ad 20 o p := hv.ne (k := 20) (k' := 20) ⟨ho, hq⟩ ⟨ho, hp⟩ (fun _ => rfl) (fun _ => rfl) (fun z => hqp z.2.2)
    refine ⟨a', b', by rw [ah_ne hne]; exact e1, fun v hv => ?_, fun v hv => ?_⟩
    · rw [va_up_ne _ _ hqp] at hv; exact e2 v hv
    · rw [va_up_ne _ _ hqp] at hv; exact e3 v hv
theorem c_twice (hv : CW P fx mem K ad h S) {o : Nat} (ho : o < S.1 0 0 0) (hg : S.1 5 o 0 < 1000) (hn : S.1 6 o 0 ≤ 20000)
    (hL : ∀ i, i < S.1 6 o 0 → ∃ p, p < S.1 5 o 0 ∧ S.2 8 o i = nI p ∧ S.2 9 o i = nI (q_lp S o p i) ∧ q_lp S o p i < 20) : ∃ h', am_E P 17 0 [some (.ref (ad 9 o 0)), none, none, none] [] h = some (some (.int 1), h') ∧ CW P fx mem K ad h' S := by
  have zero : ∀ d p (h : am_H) (x : Nat → Option Int32), p + d = S.1 5 o 0 → CW P fx mem K ad h S → PX ad S h o x (fun _ => none) → (∀ q, q < p → x q = some 0) → ∃ h', am_E P 17 2 [some (.ref (ad 9 o 0)), some (.int (nI p)), none, none] [] h = am_E P 17 36 [some (.ref (ad 9 o 0)), some (.int 0), none, none] [] h' ∧ CW P fx mem K ad h' S ∧ PX ad S h' o (fun _ => some 0) (fun _ => none) := by
    intro d
    induction d with
    | zero =>
      intro p h x hp hv hx h0
      have c1 : nI (S.1 5 o 0) ≤ nI p := nI_le (by omega) (by omega)
      refine ⟨h, ?_, hv, fun q hq => ?_⟩
      · rw [hd17_2]
        simp only [r17, o10 (hv.ou ho), Option.bind_some, hv.szP ho, if_true, Option.toList, List.nil_append, List.cons_append, if_pos c1]
      · obtain ⟨a, b, e1, e2, e3⟩ := hx q hq
        exact ⟨a, b, e1, fun v hv => e2 v (by rw [h0 q (by omega)]; exact hv), fun v hv => by cases hv⟩
    | succ d ih =>
      intro p h x hp hv hx h0
      have hpl : p < S.1 5 o 0 := by omega
      have c1 : ¬ nI (S.1 5 o 0) ≤ nI p := nI_ge hpl (by omega)
      obtain ⟨a, b, e1, -, -⟩ := hx p hpl
      obtain ⟨v1, x1⟩ := PX.put hv hx ho hpl 0 b
      obtain ⟨h', e2, e3, e4⟩ := ih (p + 1) _ _ (by omega) v1 (fun q hq => by
        obtain ⟨a', b', f1, f2, f3⟩ := x1 q hq
        exact ⟨a', b', f1, f2, fun v hv => by cases hv⟩) (fun q hq => by
        by_cases hqp : q = p
        · subst hqp; exact va_up_self _ _ _
        · rw [va_up_ne _ _ hqp]; exact h0 q (by omega))
      refine ⟨h', ?_, e3, e4⟩
      refine Eq.trans ?_ e2
      conv => lhs; rw [hd17_2]
      simp only [r17, o10 (hv.ou ho), Option.bind_some, hv.szP ho, if_true, Option.toList, List.nil_append, List.cons_append, if_neg c1, hv.getP ho hpl, o7 e1, nI_1]
  have lines : ∀ d i (h : am_H) (l2 l3 : Option Value), i + d = S.1 6 o 0 → CW P fx mem K ad h S → PX ad S h o (fun p => some (nI (2 ^ (q_lp S o p i) - 1))) (fun _ => none) → ∃ h', am_E P 17 36 [some (.ref (ad 9 o 0)), some (.int (nI i)), l2, l3] [] h = some (some (.int 1), h') ∧ CW P fx mem K ad h' S := by
    intro d
    induction d with
    | zero =>
      intro i h l2 l3 hi hv hx
      have c1 : nI (S.1 6 o 0) ≤ nI i := nI_le (by omega) (by omega)
      refine ⟨h, ?_, hv⟩
      rw [hd17_36]
      simp only [r17, o10 (hv.ou ho), Option.bind_some, hv.cntL ho, if_true, Option.toList, List.nil_append, List.cons_append, if_pos c1, or_true]
    | succ d ih =>
      intro i h l2 l3 hi hv hx
      have hi1 : i < S.1 6 o 0 := by omega
      have c1 : ¬ nI (S.1 6 o 0) ≤ nI i := nI_ge hi1 (by omega)
      obtain ⟨e, N, f, hw, hf⟩ := hv.rwL ho hn
      obtain ⟨p, hp, e8, e9, e20⟩ := hL i hi1
      obtain ⟨a, b, f1, f2, f3⟩ := hx p hp
      have fa : a = nI (2 ^ (q_lp S o p i) - 1) := f2 _ rfl
      obtain ⟨bt1, bt2⟩ := bits (q_lp S o p i) e20
      have g2 : am_E P 26 0 [some (.ref (ad 14 o 0)), some (.int (nI i)), some (.int 2)] [] h = some (some (.int (nI p)), h) := by
        have := c_cell P hw (i := i) (c := 2) hi1 (by decide)
        rw [(hf i hi1).2.2.1, e8] at this
        exact this
      have g3 : am_E P 26 0 [some (.ref (ad 14 o 0)), some (.int (nI i)), some (.int 3)] [] h = some (some (.int (nI (q_lp S o p i))), h) := by
        have := c_cell P hw (i := i) (c := 3) hi1 (by decide)
        rw [(hf i hi1).2.2.2, e9] at this
        exact this
      have hat := c_ptAt hv ho (by omega) (nI p)
      rw [am_ix_nI hp (by omega)] at hat
      obtain ⟨v1, x1⟩ := PX.put hv hx ho hp (nI (2 ^ (q_lp S o p i + 1) - 1)) b
      obtain ⟨h', e2, e3⟩ := ih (i + 1) _ (some (.ref (ad 20 o p))) (some (.int ((1 : Int32) <<< (nI (q_lp S o p i) &&& 31)))) (by omega) v1 (fun q hq => by
        obtain ⟨a', b', k1, k2, k3⟩ := x1 q hq
        refine ⟨a', b', k1, fun v hv => ?_, fun v hv => by cases hv⟩
        have hv : some (nI (2 ^ (q_lp S o q (i + 1)) - 1)) = some v := hv
        refine k2 v ?_
        by_cases hqp : q = p
        · subst hqp
          rw [va_up_self]
          rw [q_lp_S, if_pos e8] at hv
          exact hv
        · rw [va_up_ne _ _ hqp]
          rw [q_lp_S, if_neg (fun z => hqp ((nI_inj (by omega) (by omega)).mp (z.symm.trans e8))), Nat.add_zero] at hv
          exact hv)
      refine ⟨h', ?_, e3⟩
      refine Eq.trans ?_ e2
      subst fa
      conv => lhs; rw [hd17_36]
      simp only [r17, o10 (hv.ou ho), Option.bind_some, hv.cntL ho, if_true, Option.toList, List.nil_append, List.cons_append, if_neg c1, g2, hat, g3, o7 f1, bt1, bt2, nI_1]
  obtain ⟨h1, e1, v1, x1⟩ := zero _ 0 h _ (Nat.zero_add _) hv (PX.any hv ho) (fun q hq => absurd hq (Nat.not_lt_zero q))
  obtain ⟨h2, e2, v2⟩ := lines _ 0 h1 none none (Nat.zero_add _) v1 x1
  refine ⟨h2, ?_, v2⟩
  refine Eq.trans ?_ e2
  refine Eq.trans ?_ e1
  simp only [r17]
  rfl
theorem c_whole (hv : CW P fx mem K ad h S) {o : Nat} (ho : o < S.1 0 0 0) (hg : S.1 5 o 0 < 1000) (hn : S.1 6 o 0 ≤ 20000) (h11 : ∀ p, p < S.1 5 o 0 → S.1 11 o p ≤ 3)
    (hL : S.2 1 o 0 = 0 → ∀ i, i < S.1 6 o 0 → ∃ p, p < S.1 5 o 0 ∧ S.2 8 o i = nI p ∧ S.2 9 o i = nI (q_lp S o p i) ∧ q_lp S o p i < 20)
    (hW : S.2 1 o 0 = 0 → ∀ p, p < S.1 5 o 0 → S.1 11 o p = 2 → q_lp S o p (S.1 6 o 0) = S.1 10 o p) : ∃ h', am_E P 18 0 [some (.ref (ad 9 o 0)), none, none] [] h = some (some (.int 1), h') ∧ CW P fx mem K ad h' S := by
  by_cases hs : S.2 1 o 0 = 0
  · have hL := hL hs
    have hW := hW hs
    have zero : ∀ d p (h : am_H) (y : Nat → Option Int32), p + d = S.1 5 o 0 → CW P fx mem K ad h S → PX ad S h o (fun _ => none) y → (∀ q, q < p → y q = some 0) → ∃ h', am_E P 18 11 [some (.ref (ad 9 o 0)), some (.int (nI p)), none] [] h = am_E P 18 45 [some (.ref (ad 9 o 0)), some (.int 0), none] [] h' ∧ CW P fx mem K ad h' S ∧ PX ad S h' o (fun _ => none) (fun _ => some 0) := by
      intro d
      induction d with
      | zero =>
        intro p h y hp hv hx h0
        have c1 : nI (S.1 5 o 0) ≤ nI p := nI_le (by omega) (by omega)
        refine ⟨h, ?_, hv, fun q hq => ?_⟩
        · rw [hd18_11]
          simp only [r18, o10 (hv.ou ho), Option.bind_some, hv.szP ho, if_true, Option.toList, List.nil_append, List.cons_append, if_pos c1]
        · obtain ⟨a, b, e1, e2, e3⟩ := hx q hq
          exact ⟨a, b, e1, fun v hv => (by cases hv), fun v hv => e3 v (by rw [h0 q (by omega)]; exact hv)⟩
      | succ d ih =>
        intro p h y hp hv hx h0
        have hpl : p < S.1 5 o 0 := by omega
        have c1 : ¬ nI (S.1 5 o 0) ≤ nI p := nI_ge hpl (by omega)
        obtain ⟨a, b, e1, -, -⟩ := hx p hpl
        obtain ⟨v1, x1⟩ := PX.put hv hx ho hpl a 0
        obtain ⟨h', e2, e3, e4⟩ := ih (p + 1) _ _ (by omega) v1 (fun q hq => by
          obtain ⟨a', b', f1, f2, f3⟩ := x1 q hq
          exact ⟨a', b', f1, fun v hv => (by cases hv), f3⟩) (fun q hq => by
          by_cases hqp : q = p
          · subst hqp; exact va_up_self _ _ _
          · rw [va_up_ne _ _ hqp]; exact h0 q (by omega))
        refine ⟨h', ?_, e3, e4⟩
        refine Eq.trans ?_ e2
        conv => lhs; rw [hd18_11]
        simp only [r18, o10 (hv.ou ho), Option.bind_some, hv.szP ho, if_true, Option.toList, List.nil_append, List.cons_append, if_neg c1, hv.getP ho hpl, o7 e1, nI_1]
    have fin : ∀ d p (h : am_H) (l2 : Option Value), p + d = S.1 5 o 0 → CW P fx mem K ad h S → PX ad S h o (fun _ => none) (fun p => some (nI (q_lp S o p (S.1 6 o 0)))) → am_E P 18 108 [some (.ref (ad 9 o 0)), some (.int (nI p)), l2] [] h = some (some (.int 1), h) := by
      intro d
      induction d with
      | zero =>
        intro p h l2 hp hv hx
        have c1 : nI (S.1 5 o 0) ≤ nI p := nI_le (by omega) (by omega)
        rw [hd18_108]
        simp only [r18, o10 (hv.ou ho), Option.bind_some, hv.szP ho, if_true, Option.toList, List.nil_append, List.cons_append, if_pos c1, or_true]
      | succ d ih =>
        intro p h l2 hp hv hx
        have hpl : p < S.1 5 o 0 := by omega
        have c1 : ¬ nI (S.1 5 o 0) ≤ nI p := nI_ge hpl (by omega)
        obtain ⟨a, b, e1, e2, e3⟩ := hx p hpl
        have eb : b = nI (q_lp S o p (S.1 6 o 0)) := e3 _ rfl
        have i1 := ih (p + 1) h (some (.ref (ad 20 o p))) (by omega) hv hx
        have em : nI (S.1 11 o p) = 2 ↔ S.1 11 o p = 2 := nI_eq (a := S.1 11 o p) (b := 2) (by have := h11 p hpl; omega) (by decide)
        refine Eq.trans ?_ i1
        conv => lhs; rw [hd18_108]
        by_cases h2 : S.1 11 o p = 2
        · have c2 : nI (S.1 11 o p) = 2 := em.mpr h2
          have c3 : b = nI (S.1 10 o p) := by rw [eb, hW p hpl h2]
          simp only [r18, o10 (hv.ou ho), Option.bind_some, hv.szP ho, if_true, Option.toList, List.nil_append, List.cons_append, if_neg c1, hv.getP ho hpl, o7 e1, if_pos c2, if_pos c3, nI_1]
        · have c2 : ¬ nI (S.1 11 o p) = 2 := fun z => h2 (em.mp z)
          simp only [r18, o10 (hv.ou ho), Option.bind_some, hv.szP ho, if_true, Option.toList, List.nil_append, List.cons_append, if_neg c1, hv.getP ho hpl, o7 e1, if_neg c2, nI_1]
    have lines : ∀ d i (h : am_H) (l2 : Option Value), i + d = S.1 6 o 0 → CW P fx mem K ad h S → PX ad S h o (fun _ => none) (fun p => some (nI (q_lp S o p i))) → ∃ h', am_E P 18 45 [some (.ref (ad 9 o 0)), some (.int (nI i)), l2] [] h = some (some (.int 1), h') ∧ CW P fx mem K ad h' S := by
      intro d
      induction d with
      | zero =>
        intro i h l2 hi hv hx
        have c1 : nI (S.1 6 o 0) ≤ nI i := nI_le (by omega) (by omega)
        obtain rfl : i = S.1 6 o 0 := by omega
        have f0 := fin _ 0 h l2 (Nat.zero_add _) hv hx
        refine ⟨h, ?_, hv⟩
        refine Eq.trans ?_ f0
        rw [hd18_45]
        simp only [r18, o10 (hv.ou ho), Option.bind_some, hv.cntL ho, if_true, Option.toList, List.nil_append, List.cons_append, if_pos c1]
        rfl
      | succ d ih =>
        intro i h l2 hi hv hx
        have hi1 : i < S.1 6 o 0 := by omega
        have c1 : ¬ nI (S.1 6 o 0) ≤ nI i := nI_ge hi1 (by omega)
        obtain ⟨e, N, f, hw, hf⟩ := hv.rwL ho hn
        obtain ⟨p, hp, e8, e9, e20⟩ := hL i hi1
        obtain ⟨a, b, f1, f2, f3⟩ := hx p hp
        have fb : b = nI (q_lp S o p i) := f3 _ rfl
        have g2 : am_E P 26 0 [some (.ref (ad 14 o 0)), some (.int (nI i)), some (.int 2)] [] h = some (some (.int (nI p)), h) := by
          have := c_cell P hw (i := i) (c := 2) hi1 (by decide)
          rw [(hf i hi1).2.2.1, e8] at this
          exact this
        have g3 : am_E P 26 0 [some (.ref (ad 14 o 0)), some (.int (nI i)), some (.int 3)] [] h = some (some (.int (nI (q_lp S o p i))), h) := by
          have := c_cell P hw (i := i) (c := 3) hi1 (by decide)
          rw [(hf i hi1).2.2.2, e9] at this
          exact this
        have hat := c_ptAt hv ho (by omega) (nI p)
        rw [am_ix_nI hp (by omega)] at hat
        obtain ⟨v1, x1⟩ := PX.put hv hx ho hp a (nI (q_lp S o p i + 1))
        obtain ⟨h', e2, e3⟩ := ih (i + 1) _ (some (.ref (ad 20 o p))) (by omega) v1 (fun q hq => by
          obtain ⟨a', b', k1, k2, k3⟩ := x1 q hq
          refine ⟨a', b', k1, fun v hv => (by cases hv), fun v hv => ?_⟩
          have hv : some (nI (q_lp S o q (i + 1))) = some v := hv
          refine k3 v ?_
          by_cases hqp : q = p
          · subst hqp
            rw [va_up_self]
            rw [q_lp_S, if_pos e8] at hv
            exact hv
          · rw [va_up_ne _ _ hqp]
            rw [q_lp_S, if_neg (fun z => hqp ((nI_inj (by omega) (by omega)).mp (z.symm.trans e8))), Nat.add_zero] at hv
            exact hv)
        refine ⟨h', ?_, e3⟩
        refine Eq.trans ?_ e2
        subst fb
        conv => lhs; rw [hd18_45]
        simp only [r18, o10 (hv.ou ho), Option.bind_some, hv.cntL ho, if_true, Option.toList, List.nil_append, List.cons_append, if_neg c1, g2, hat, g3, o7 f1, nI_1]
    obtain ⟨h1, e1, v1, x1⟩ := zero _ 0 h _ (Nat.zero_add _) hv (PX.any hv ho) (fun q hq => absurd hq (Nat.not_lt_zero q))
    obtain ⟨h2, e2, v2⟩ := lines _ 0 h1 none (Nat.zero_add _) v1 x1
    refine ⟨h2, ?_, v2⟩
    refine Eq.trans ?_ e2
    refine Eq.trans ?_ e1
    simp only [r18, o10 (hv.ou ho), Option.bind_some, if_pos hs]
    rfl
  · refine ⟨h, ?_, hv⟩
    simp only [r18, o10 (hv.ou ho), Option.bind_some, if_neg hs, or_true, if_true]
theorem c_latest (hv : CW P fx mem K ad h S) {o : Nat} (ho : o < S.1 0 0 0) (hg : S.1 5 o 0 < 1000) (hn : S.1 1 0 0 ≤ 20000) (h11 : ∀ p, p < S.1 5 o 0 → S.1 11 o p ≤ 3 ∧ S.1 10 o p ≤ 20 ∧ S.1 9 o p + S.1 10 o p ≤ S.1 1 0 0)
    (hT : S.2 1 o 0 = 1 → ∀ p, p < S.1 5 o 0 → S.1 11 o p = 2 → ∀ j, j < S.1 10 o p → (0 ≤ S.2 4 (S.1 9 o p + j) 3 ∧ S.2 4 (S.1 9 o p + j) 3 < 10) ∧ ∃ q, q < S.1 5 o 0 ∧ S.2 10 o (S.2 4 (S.1 9 o p + j) 3).toNatClampNeg = nI q ∧ p ≤ q) : am_E P 19 0 [some (.ref (ad 9 o 0)), some (.ref (ad 5 0 0)), none, none, none, none] [] h = some (some (.int 1), h) := by
  by_cases hs : S.2 1 o 0 = 1
  · have hT := hT hs
    obtain ⟨e, N, f, hw, hf⟩ := hv.rwD hn
    have c01 : ¬ (1 : Int32) = 0 := by decide
    have parts : ∀ d p (l3 l4 l5 : Option Value), p + d = S.1 5 o 0 → am_E P 19 12 [some (.ref (ad 9 o 0)), some (.ref (ad 5 0 0)), some (.int (nI p)), l3, l4, l5] [] h = some (some (.int 1), h) := by
      intro d
      induction d with
      | zero =>
        intro p l3 l4 l5 hp
        have c1 : nI (S.1 5 o 0) ≤ nI p := nI_le (by omega) (by omega)
        rw [hd19_12]
        simp only [r19, o10 (hv.ou ho), Option.bind_some, hv.szP ho, if_true, Option.toList, List.nil_append, List.cons_append, if_pos c1, or_true]
      | succ d ih =>
        intro p l3 l4 l5 hp
        have hpl : p < S.1 5 o 0 := by omega
        have c1 : ¬ nI (S.1 5 o 0) ≤ nI p := nI_ge hpl (by omega)
        obtain ⟨a, b, e1⟩ := hv.pt ho hpl
        obtain ⟨b1, b2, b3⟩ := h11 p hpl
        have em : nI (S.1 11 o p) = 2 ↔ S.1 11 o p = 2 := nI_eq (a := S.1 11 o p) (b := 2) (by omega) (by decide)
        have rows : ∀ k j l5, j + k = S.1 10 o p → am_E P 19 38 [some (.ref (ad 9 o 0)), some (.ref (ad 5 0 0)), some (.int (nI p)), some (.ref (ad 20 o p)), some (.int (nI j)), l5] [] h = some (some (.int 1), h) := by
          intro k
          induction k with
          | zero =>
            intro j l5 hj
            have i1 := ih (p + 1) (some (.ref (ad 20 o p))) (some (.int (nI j))) l5 (by omega)
            refine Eq.trans ?_ i1
            conv => lhs; rw [hd19_38]
            have c3 : nI (S.1 10 o p) ≤ nI j := nI_le (by omega) (by omega)
            by_cases h2 : S.1 11 o p = 2
            · have c2 : nI (S.1 11 o p) = 2 := em.mpr h2
              simp only [r19, o7 e1, Option.bind_some, if_pos c2, if_pos c3, nI_1]
            · have c2 : ¬ nI (S.1 11 o p) = 2 := fun z => h2 (em.mp z)
              simp only [r19, o7 e1, Option.bind_some, if_neg c2, nI_1]
          | succ k ihk =>
            intro j l5 hj
            by_cases h2 : S.1 11 o p = 2
            · have c2 : nI (S.1 11 o p) = 2 := em.mpr h2
              have c3 : ¬ nI (S.1 10 o p) ≤ nI j := nI_ge (by omega) (by omega)
              obtain ⟨hk, q, hq, eq, hpq⟩ := hT p hpl h2 j (by omega)
              obtain ⟨k', hk', ek, ck⟩ := key_nat hk
              rw [ck] at eq
              have g3 : am_E P 26 0 [some (.ref (ad 5 0 0)), some (.int (nI (S.1 9 o p + j))), some (.int 3)] [] h = some (some (.int (nI k')), h) := by
                have := c_cell P hw (i := S.1 9 o p + j) (c := 3) (by omega) (by decide)
                rw [hf _ 3 (by omega) (by decide), ek] at this
                exact this
              have th := c_thas hv ho hk'
              rw [if_neg (by rw [eq]; exact nI_ne6 (by omega))] at th
              obtain ⟨fp, p1, p2⟩ := hv.tp ho
              have c4 : nI p ≤ nI q := nI_le hpq (by omega)
              have i1 := ihk (j + 1) (some (.int (nI k'))) (by omega)
              refine Eq.trans ?_ i1
              conv => lhs; rw [hd19_38]
              simp only [r19, o7 e1, Option.bind_some, if_pos c2, if_neg c3, nI_add, hv.cntD, if_true, g3, Option.toList, List.nil_append, List.cons_append, o10 (hv.ou ho), o4 (hv.tb ho), th, if_neg c01, iald_I p1 hk' (by decide), p2 k' hk', eq, if_pos c4, nI_1]
            · have c2 : ¬ nI (S.1 11 o p) = 2 := fun z => h2 (em.mp z)
              have i1 := ih (p + 1) (some (.ref (ad 20 o p))) (some (.int (nI j))) l5 (by omega)
              refine Eq.trans ?_ i1
              conv => lhs; rw [hd19_38]
              simp only [r19, o7 e1, Option.bind_some, if_neg c2, nI_1]
        have r0 := rows _ 0 l5 (Nat.zero_add _)
        refine Eq.trans ?_ r0
        conv => lhs; rw [hd19_12]
        simp only [r19, o10 (hv.ou ho), Option.bind_some, hv.szP ho, if_true, Option.toList, List.nil_append, List.cons_append, if_neg c1, hv.getP ho hpl, o7 e1]
        rfl
    have p0 := parts _ 0 none none none (Nat.zero_add _)
    refine Eq.trans ?_ p0
    simp only [r19, o10 (hv.ou ho), Option.bind_some, if_pos hs]
    rfl
  · simp only [r19, o10 (hv.ou ho), Option.bind_some, if_neg hs, or_true, if_true]
theorem cc_audit (hz : CZ P fx mem K X h S) (hk : KI S c) : ∃ h', am_E P 52 0 [some (.ref X), none, none, none, none, none, none] [] h = some (some (.int 0), h') ∧ CZ P fx mem (K.1 + 100, K.2 + 10000) X h' S := by
  obtain ⟨ad, rfl, hv⟩ := hz
  obtain ⟨a1, a2, a3, a4, a5, a6, a7, a8, a9, a10, a11⟩ := hk.1
  have hIN := a1.1
  have h3 : S.1 0 0 0 ≤ 3 := hIN.2.2.1
  have hnr := a1.nr
  have c01 : ¬ (1 : Int32) = 0 := by decide
  have loop : ∀ d o (h : am_H) (l6 : Option Value), o + d = S.1 0 0 0 → CW P fx mem K ad h S → ∃ h', am_E P 52 12 [some (.ref (ad 0 0 0)), some (.int 1), some (.int 1), some (.int 1), some (.int 1), some (.int (nI o)), l6] [] h = some (some (.int 0), h') ∧ CW P fx mem K ad h' S := by
    intro d
    induction d with
    | zero =>
      intro o h l6 ho hv
      have c1 : nI (S.1 0 0 0) ≤ nI o := nI_le (by omega) (by omega)
      refine ⟨h, ?_, hv⟩
      rw [hd52_12]
      simp only [r52, o9 hv.x, Option.bind_some, hv.szO, if_true, Option.toList, List.nil_append, List.cons_append, if_pos c1, if_neg c01]
      rfl
    | succ d ih =>
      intro o h l6 hod hv
      have ho : o < S.1 0 0 0 := by omega
      have c1 : ¬ nI (S.1 0 0 0) ≤ nI o := nI_ge ho (by omega)
      have hg : S.1 5 o 0 < 1000 := hIN.1.2.2.1 o (by omega)
      have hl := hIN.lines o
      have hco := fun p (hp : p < S.1 5 o 0) => hIN.1.1 o p (by omega) hp
      have hip := fun p (hp : p < S.1 5 o 0) => hIN.2.2.2.2.1 o p ho hp
      obtain ⟨iO1, iL1, iT1⟩ := hIN.2.2.2.2.2.1 o ho
      have pos : ∀ p, p < S.1 5 o 0 → 0 < S.1 15 o p → S.1 11 o p ≠ 0 ∧ S.2 13 o p ≤ S.2 0 0 0 := fun p hp h15 => by
        obtain ⟨p1, p2, p3, p4, p5, p6, p7⟩ := hip p hp
        exact ⟨fun e => by have := p5 (Or.inl e); omega, p7 h15⟩
      have hL15 : ∀ i, i < S.1 6 o 0 → ∃ p, p < S.1 5 o 0 ∧ S.2 8 o i = nI p ∧ 0 < S.1 15 o p ∧ S.2 9 o i = nI (q_lp S o p i) ∧ q_lp S o p i < 20 := fun i hi => by
        by_cases hs : S.2 1 o 0 = 0
        · have hL := iL1 hs
          obtain ⟨p, q1, q2, q3, q4, q5⟩ := hL.at hi
          have e := hL.lpi hi hg q1 q3 q4
          obtain ⟨p1, p2, p3, -⟩ := hip p q1
          exact ⟨p, q1, q2, by omega, by rw [e]; exact q5, by rw [e]; omega⟩
        · have := (iT1 hs).1
          omega
      have e1 := c_only hv ho hg (by omega) (S.2 0 0 0) (fun p hp => (hco p hp).2.1) (fun i hi => by
        obtain ⟨p, q1, q2, q3, -⟩ := hL15 i hi
        obtain ⟨r1, r2⟩ := pos p q1 q3
        exact ⟨p, q1, q2, r1, r2⟩) (fun k hk => by
        by_cases hs : S.2 1 o 0 = 0
        · exact Or.inl (hv.tz ho hs k hk)
        · rcases (iT1 hs).2.1 k hk with e | ⟨p, q1, q2, q3⟩
          · exact Or.inl e
          · obtain ⟨r1, r2⟩ := pos p q1 q3
            exact Or.inr ⟨p, q1, q2, r1, r2⟩)
      obtain ⟨h1, e2, v1⟩ := c_twice hv ho hg (by omega) (fun i hi => by
        obtain ⟨p, q1, q2, q3, q4, q5⟩ := hL15 i hi
        exact ⟨p, q1, q2, q4, q5⟩)
      obtain ⟨h2, e3, v2⟩ := c_whole v1 ho hg (by omega) (fun p hp => (hco p hp).2.1) (fun _ i hi => by
        obtain ⟨p, q1, q2, q3, q4, q5⟩ := hL15 i hi
        exact ⟨p, q1, q2, q4, q5⟩) (fun hs p hp h2 => by
        rw [(iL1 hs).lp hp hg]
        exact (hip p hp).2.2.2.1 h2)
      have e4 := c_latest v2 ho hg (by omega) (fun p hp => ⟨(hco p hp).2.1, (hip p hp).2.1, (hco p hp).2.2.2.2.1⟩) (fun hs p hp h2 j hj => by
        have hs0 : S.2 1 o 0 ≠ 0 := by rw [hs]; decide
        have h15 := (hip p hp).2.2.2.1 h2
        have hrn : S.1 9 o p + j < S.1 1 0 0 := by have := (hco p hp).2.2.2.2.1; omega
        have hrow : S.2 4 (S.1 9 o p + j) 0 = 0 := (((hco p hp).2.2.2.1 (S.1 9 o p + j) hrn).mpr ⟨by omega, by omega⟩).1
        exact ⟨hIN.1.2.2.2.2.1 _ hrn hrow, (iT1 hs0).2.2 p hp j (by omega)⟩)
      obtain ⟨h', e5, v3⟩ := ih (o + 1) h2 (some (.ref (ad 9 o 0))) (by omega) v2
      refine ⟨h', ?_, v3⟩
      refine Eq.trans ?_ e5
      conv => lhs; rw [hd52_12]
      simp only [r52, o9 hv.x, Option.bind_some, hv.szO, if_true, Option.toList, List.nil_append, List.cons_append, if_neg c1, hv.getO ho h3, cl_of (hv.ou ho), if_neg c01, e1, e2, cl_of (v1.ou ho), e3, o9 v2.x, cl_of (v2.ou ho), e4, nI_1]
  obtain ⟨h', e1, v1⟩ := loop _ 0 h none (Nat.zero_add _) hv
  refine ⟨h', ?_, v1.z rfl⟩
  refine Eq.trans ?_ e1
  simp only [r52]
  rfl
end CAu
