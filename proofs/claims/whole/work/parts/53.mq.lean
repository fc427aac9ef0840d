/-! The model: what is asked. -/
def q_keys (S : sp) (o : Nat) : Nat → Nat
  | 0 => 0
  | k + 1 => q_keys S o k + (if S.2 10 o k = -6 then 0 else 1)
def sp_about (S : sp) (o w : Int32) : Int32 := match am_ix o (S.1 0 0 0) with
  | none => -1
  | some o' => if w = 0 then S.2 1 o' 0 else if w = 1 then nI (S.1 4 o' 0) else if w = 2 then nI (S.1 5 o' 0) else if w = 3 then (if S.2 1 o' 0 = 0 then nI (S.1 6 o' 0) else nI (q_keys S o' 10)) else if w = 4 then S.2 1 o' 1 else if w = 5 then S.2 1 o' 2 else if w = 6 then nI (pn S o') else -2
def sp_part (S : sp) (o p w : Int32) : Int32 := match am_ix o (S.1 0 0 0) with
  | none => -1
  | some o' => match am_ix p (S.1 5 o' 0) with
    | none => -1
    | some p' => if w = 0 then (if S.1 11 o' p' = 0 then -6 else S.2 13 o' p') else if w = 1 then nI (S.1 10 o' p') else if w = 2 then nI (S.1 11 o' p') else -2
abbrev q_NO : Int64 := -9223372036854775808
def sp_lineQ (S : sp) (o i w : Int32) : Int64 := match am_ix o (S.1 0 0 0) with
  | none => q_NO
  | some o' => if S.2 1 o' 0 = 0 then (match am_ix i (S.1 6 o' 0) with
      | none => q_NO
      | some i' => if w = 0 then (S.2 6 o' i').toInt64 else if w = 1 then (S.2 7 o' i').toInt64 else if w = 2 then (S.2 8 o' i').toInt64 else if w = 3 then (S.2 9 o' i').toInt64 else q_NO) else q_NO
def sp_lastQ (S : sp) (o k w : Int32) : Int64 := match am_ix o (S.1 0 0 0) with
  | none => q_NO
  | some o' => if S.2 1 o' 0 = 1 then (match am_ix k 10 with
      | none => q_NO
      | some k' => if S.2 10 o' k' = -6 then q_NO else if w = 0 then (S.2 12 o' k').toInt64 else if w = 1 then (S.2 10 o' k').toInt64 else if w = 2 then (S.2 11 o' k').toInt64 else q_NO) else q_NO
def q_cnt (S : sp) (o : Nat) (k : Int32) : Nat → Nat
  | 0 => 0
  | i + 1 => q_cnt S o k i + (if S.2 6 o i = k then 1 else 0)
def sp_seen (S : sp) (r k : Int32) : Int32 := match am_ix r (S.1 3 0 0) with
  | none => -1
  | some r' => if k = -6 then nI (S.1 8 r' 0) else if k < 0 ∨ 9 < k then -2 else nI (q_cnt S (S.1 7 r' 0) k (S.1 8 r' 0))
def sp_recQ (S : sp) (i w : Int32) : Int32 := match am_ix i (S.1 1 0 0) with
  | none => -1
  | some i' => if w = 0 then S.2 4 i' 0 else if w = 1 then S.2 4 i' 1 else if w = 2 then S.2 4 i' 2 else if w = 3 then S.2 4 i' 3 else if w = 4 then S.2 4 i' 4 else -2
def sp_told (S : sp) (w : Int32) : Int32 := if w = 0 then nI (S.1 0 0 0) else if w = 1 then nI (S.1 1 0 0) else if w = 2 then S.2 0 0 0 else if w = 3 then sp_gr S else if w = 4 then (if S.2 0 1 0 = 0 then 0 else 1) else if w = 5 then (if S.2 0 2 0 = 0 then 0 else 1) else if w = 6 then S.2 0 4 0 else if w = 7 then S.2 0 5 0 else if w = 8 then nI (S.1 3 0 0) else -2
theorem sum_S (f : Nat → Nat) (n : Nat) : sum_ f (n + 1) = sum_ f n + f n := rfl
section MQ
variable {M n s : Nat} {mem : Nat → am_C} {pd : Int32} {S : sp} {h : am_H} {c : Nat}
theorem k_about (P : Nat × Nat) (hs : MS M n s mem pd h S) (hk : KI S c) (hc : c < 100) (o w : Int32) : am_E P 100 0 [some (.ref M), some (.int o), some (.int w), none, none, none] [] h = some (some (.int (sp_about S o w)), h) := by
  obtain ⟨f, F, hv, hf, hF, hpd⟩ := id hs
  have h3 := hk.1.1.1.2.2.1
  have kst := k_strange P hs o
  have z : ¬ (1 : Int32) = 0 := by decide
  cases hx : am_ix o (S.1 0 0 0) with
  | none =>
    have e : sp_about S o w = -1 := by unfold sp_about; rw [hx]
    rw [e]
    rw [if_pos (str_N (by omega) hx)] at kst
    simp only [r100, hv.c, if_true, kst, Option.bind_some, Option.toList_some, List.cons_append, List.nil_append, if_neg z]
  | some o' =>
    obtain ⟨s1, s2, s3⟩ := str_S (by omega) hx
    rw [if_neg s1] at kst
    have ho3 : o' < 3 := by omega
    obtain ⟨g1, g2, g3, g4, g5, g6⟩ := hF.1 o' ho3
    have hgv := (hk.gv hc o').1
    have hnr := (hk.gv hc 0).2
    subst s2
    have loopK : ∀ k i, i + k = 10 → am_E P 100 78 [some (.ref M), some (.int (nI o')), some (.int w), some (.int (nI (q_keys S o' i))), some (.int (nI i)), none] [] h = am_E P 100 116 [some (.ref M), some (.int (nI o')), some (.int w), some (.int (nI (q_keys S o' 10))), some (.int (nI 10)), none] [] h := by
      intro k
      induction k with
      | zero =>
        intro i hi
        obtain rfl : i = 10 := by omega
        have c1 : (10 : Int32) ≤ nI 10 := by decide
        conv => lhs; rw [hd100_78]
        simp only [r100, if_pos c1]
      | succ k ih =>
        intro i hi
        have ih := ih (i + 1) (by omega)
        rw [← ih]
        have c1 : ¬ (10 : Int32) ≤ nI i := nI_ge (b := 10) (by omega) (by decide)
        have ix : (10 : Int32) * nI o' + nI i = nI (10 * o' + i) := by rw [show (10 : Int32) = nI 10 from rfl, nI_m, nI_add]
        have gk := (hF.2.2.2.2.1 o' i ho3 (by omega)).1
        conv => lhs; rw [hd100_78]
        simp only [r100, if_neg c1, hv.g, mo_g, Option.bind_some, ix, hv.ld 18 (by decide) (by decide) (q := 10 * o' + i) (show _ < 30 by omega), gk]
        rw [show q_keys S o' (i + 1) = q_keys S o' i + (if S.2 10 o' i = -6 then 0 else 1) from rfl]
        by_cases c2 : S.2 10 o' i = -6
        · simp only [c2, if_true, r100, Int32.add_zero, Nat.add_zero, nI_1]
        · simp only [c2, if_false, r100, nI_1]
    have loopW : ∀ k i, i + k = S.1 5 o' 0 → am_E P 100 156 [some (.ref M), some (.int (nI o')), some (.int w), none, some (.int (nI (sum_ (fun p => if S.1 11 o' p = 1 then 1 else 0) i))), some (.int (nI i))] [] h = some (some (.int (nI (pn S o'))), h) := by
      intro k
      induction k with
      | zero =>
        intro i hi
        obtain rfl : i = S.1 5 o' 0 := by omega
        have c1 : nI (S.1 5 o' 0) ≤ nI (S.1 5 o' 0) := Int32.le_refl _
        rw [hd100_156]
        simp only [r100, hv.g, mo_g, Option.bind_some, hv.ld 5 (by decide) (by decide) (q := o') (show _ < 3 from ho3), g3, if_pos c1]
        rfl
      | succ k ih =>
        intro i hi
        have ih := ih (i + 1) (by omega)
        rw [← ih]
        have c1 : ¬ nI (S.1 5 o' 0) ≤ nI i := nI_ge (by omega) (by omega)
        obtain ⟨x1, x2, x3⟩ := co_st hk.1.1 s3 (p := i) (by omega)
        have kst2 := k_stateOf P hs (by omega) (nI o') (nI i)
        rw [x1] at kst2
        conv => lhs; rw [hd100_156]
        simp only [r100, hv.g, mo_g, Option.bind_some, hv.ld 5 (by decide) (by decide) (q := o') (show _ < 3 from ho3), g3, if_neg c1, hv.c, if_true, kst2, Option.toList_some, List.cons_append, List.nil_append]
        rw [sum_S]
        by_cases c2 : S.1 11 o' i = 1
        · have e1 : nI (S.1 11 o' i) = 1 := by rw [c2]; rfl
          simp only [if_pos e1, if_pos c2, r100, nI_1]
        · have e1 : ¬ nI (S.1 11 o' i) = 1 := fun q => c2 ((nI_inj (b := 1) (by omega) (by decide)).mp q)
          simp only [e1, c2, if_false, r100, Int32.add_zero, Nat.add_zero, nI_1]
    have lk := loopK 10 0 rfl
    have lw := loopW _ 0 (Nat.zero_add _)
    have go : am_E P 100 0 [some (.ref M), some (.int (nI o')), some (.int w), none, none, none] [] h = am_E P 100 11 [some (.ref M), some (.int (nI o')), some (.int w), none, none, none] [.int w] h := by
      simp only [r100, hv.c, if_true, kst, Option.bind_some, Option.toList_some, List.cons_append, List.nil_append]
    rw [go]
    have zz : (0 : Int32) = nI 0 := rfl
    have q0 : nI (q_keys S o' 0) = 0 := rfl
    have q1 : nI (sum_ (fun p => if S.1 11 o' p = 1 then 1 else 0) 0) = 0 := rfl
    rw [q0, ← zz] at lk
    rw [q1, ← zz] at lw
    unfold sp_about
    rw [hx]
    simp only
    by_cases w0 : w = 0
    · simp only [w0, if_true, r100, hv.g, mo_g, Option.bind_some, hv.ld 1 (by decide) (by decide) (q := o') (show _ < 3 from ho3), g1]
    · by_cases w1 : w = 1
      · have n1 : ¬ (1 : Int32) = 0 := by decide
        simp only [w1, n1, if_true, if_false, r100, hv.g, mo_g, Option.bind_some, hv.ld 2 (by decide) (by decide) (q := o') (show _ < 3 from ho3), g2]
      · by_cases w2 : w = 2
        · have n1 : ¬ (2 : Int32) = 0 := by decide
          have n2 : ¬ (2 : Int32) = 1 := by decide
          simp only [w2, n1, n2, if_true, if_false, r100, hv.g, mo_g, Option.bind_some, hv.ld 5 (by decide) (by decide) (q := o') (show _ < 3 from ho3), g3]
        · by_cases w3 : w = 3
          · simp only [w0, w1, w2, if_neg, not_false_eq_true, if_pos w3, r100]
            rw [lk]
            by_cases hsrt : S.2 1 o' 0 = 0
            · simp only [r100, hv.g, mo_g, Option.bind_some, hv.ld 1 (by decide) (by decide) (q := o') (show _ < 3 from ho3), g1, hsrt, if_true, hv.ld 13 (by decide) (by decide) (q := o') (show _ < 3 from ho3), g6]
            · simp only [r100, hv.g, mo_g, Option.bind_some, hv.ld 1 (by decide) (by decide) (q := o') (show _ < 3 from ho3), g1, if_neg hsrt]
          · by_cases w4 : w = 4
            · simp only [w0, w1, w2, w3, if_neg, not_false_eq_true, if_pos w4, r100, hv.g, mo_g, Option.bind_some, hv.ld 6 (by decide) (by decide) (q := o') (show _ < 3 from ho3), g4]
            · by_cases w5 : w = 5
              · simp only [w0, w1, w2, w3, w4, if_neg, not_false_eq_true, if_pos w5, r100, hv.g, mo_g, Option.bind_some, hv.ld 7 (by decide) (by decide) (q := o') (show _ < 3 from ho3), g5]
              · by_cases w6 : w = 6
                · simp only [w0, w1, w2, w3, w4, w5, if_neg, not_false_eq_true, if_pos w6, r100]
                  exact lw
                · simp only [w0, w1, w2, w3, w4, w5, w6, if_neg, not_false_eq_true, r100]
theorem k_part (P : Nat × Nat) (hs : MS M n s mem pd h S) (hk : KI S c) (hc : c < 100) (o p w : Int32) : am_E P 101 0 [some (.ref M), some (.int o), some (.int p), some (.int w)] [] h = some (some (.int (sp_part S o p w)), h) := by
  obtain ⟨f, F, hv, hf, hF, hpd⟩ := id hs
  have h3 := hk.1.1.1.2.2.1
  have kst := k_strange P hs o
  have z : ¬ (1 : Int32) = 0 := by decide
  cases hx : am_ix o (S.1 0 0 0) with
  | none =>
    have e : sp_part S o p w = -1 := by unfold sp_part; rw [hx]
    rw [e]
    rw [if_pos (str_N (by omega) hx)] at kst
    simp only [r101, hv.c, if_true, kst, Option.bind_some, Option.toList_some, List.cons_append, List.nil_append, if_neg z]
  | some o' =>
    obtain ⟨s1, s2, s3⟩ := str_S (by omega) hx
    rw [if_neg s1] at kst
    have ho3 : o' < 3 := by omega
    obtain ⟨g1, g2, g3, g4, g5, g6⟩ := hF.1 o' ho3
    have hgv := (hk.gv hc o').1
    have hnr := (hk.gv hc 0).2
    subst s2
    cases hy : am_ix p (S.1 5 o' 0) with
    | none =>
      have e : sp_part S (nI o') p w = -1 := by unfold sp_part; rw [hx]; simp only; rw [hy]
      rw [e]
      have := str_N (by omega) hy
      simp only [r101, hv.c, if_true, kst, Option.bind_some, Option.toList_some, List.cons_append, List.nil_append, hv.g, mo_g, hv.ld 5 (by decide) (by decide) (q := o') (show _ < 3 from ho3), g3, k_no, if_pos this, if_neg z]
    | some p' =>
      obtain ⟨t1, t2, t3⟩ := str_S (by omega) hy
      subst t2
      obtain ⟨x1, x2, x3⟩ := co_st hk.1.1 s3 t3
      have b := hk.1.1.1.1.1 o' p' ho3 t3
      have k1 := k_stateOf P hs (by omega) (nI o') (nI p')
      have k2 := k_markOf P hs (by omega) (nI o') (nI p')
      have k3 := k_rowsOf P hs (by omega) (nI o') (nI p')
      rw [x1] at k1
      rw [b.2.2.1] at k2
      rw [b.2.2.2.2.2] at k3
      have e2 : (if S.1 11 o' p' = 0 then none else some (S.2 13 o' p')).getD (-6) = if S.1 11 o' p' = 0 then -6 else S.2 13 o' p' := by
        split <;> rfl
      rw [e2] at k2
      have go : am_E P 101 0 [some (.ref M), some (.int (nI o')), some (.int (nI p')), some (.int w)] [] h = am_E P 101 26 [some (.ref M), some (.int (nI o')), some (.int (nI p')), some (.int w)] [] h := by
        simp only [r101, hv.c, if_true, kst, Option.bind_some, Option.toList_some, List.cons_append, List.nil_append, hv.g, mo_g, hv.ld 5 (by decide) (by decide) (q := o') (show _ < 3 from ho3), g3, k_no, if_neg t1]
      rw [go]
      unfold sp_part
      rw [hx]
      simp only
      rw [hy]
      simp only
      by_cases w0 : w = 0
      · simp only [if_pos w0, r101, hv.c, if_true, k2, Option.bind_some, Option.toList_some, List.cons_append, List.nil_append]
      · by_cases w1 : w = 1
        · simp only [if_neg w0, if_pos w1, r101, hv.c, if_true, k3, Option.bind_some, Option.toList_some, List.cons_append, List.nil_append]
        · by_cases w2 : w = 2
          · simp only [if_neg w0, if_neg w1, if_pos w2, r101, hv.c, if_true, k1, Option.bind_some, Option.toList_some, List.cons_append, List.nil_append]
          · simp only [if_neg w0, if_neg w1, if_neg w2, r101]
theorem k_lineQ (P : Nat × Nat) (hs : MS M n s mem pd h S) (hk : KI S c) (hc : c < 100) (o i w : Int32) : am_E P 102 0 [some (.ref M), some (.int o), some (.int i), some (.int w), none] [] h = some (some (.long (sp_lineQ S o i w)), h) := by
  obtain ⟨f, F, hv, hf, hF, hpd⟩ := id hs
  have h3 := hk.1.1.1.2.2.1
  have kst := k_strange P hs o
  have z : ¬ (1 : Int32) = 0 := by decide
  cases hx : am_ix o (S.1 0 0 0) with
  | none =>
    have e : sp_lineQ S o i w = q_NO := by unfold sp_lineQ; rw [hx]
    rw [e]
    rw [if_pos (str_N (by omega) hx)] at kst
    simp only [r102, hv.c, if_true, kst, Option.bind_some, Option.toList_some, List.cons_append, List.nil_append, if_neg z]
  | some o' =>
    obtain ⟨s1, s2, s3⟩ := str_S (by omega) hx
    rw [if_neg s1] at kst
    have ho3 : o' < 3 := by omega
    obtain ⟨g1, g2, g3, g4, g5, g6⟩ := hF.1 o' ho3
    have hnr := (hk.gv hc 0).2
    have hnl := hk.1.1.1.lines o'
    subst s2
    by_cases hsrt : S.2 1 o' 0 = 0
    · cases hy : am_ix i (S.1 6 o' 0) with
      | none =>
        have e : sp_lineQ S (nI o') i w = q_NO := by unfold sp_lineQ; rw [hx]; simp only; rw [if_pos hsrt, hy]
        rw [e]
        have := str_N (by omega) hy
        simp only [r102, hv.c, if_true, kst, Option.bind_some, Option.toList_some, List.cons_append, List.nil_append, hv.g, mo_g, hv.ld 1 (by decide) (by decide) (q := o') (show _ < 3 from ho3), g1, hsrt, hv.ld 13 (by decide) (by decide) (q := o') (show _ < 3 from ho3), g6, k_no, if_pos this, if_neg z]
      | some i' =>
        obtain ⟨t1, t2, t3⟩ := str_S (by omega) hy
        subst t2
        have hfr : nI o' * 100 * 20 + nI i' = nI (2000 * o' + i') := by
          rw [show (100 : Int32) = nI 100 from rfl, show (20 : Int32) = nI 20 from rfl, nI_m, nI_m, nI_add]
          congr 1
          omega
        obtain ⟨y1, y2, y3, y4⟩ := hF.2.2.2.1 o' i' ho3 t3
        have b1 : 2000 * o' + i' < 6000 := by omega
        have go : am_E P 102 0 [some (.ref M), some (.int (nI o')), some (.int (nI i')), some (.int w), none] [] h = am_E P 102 48 [some (.ref M), some (.int (nI o')), some (.int (nI i')), some (.int w), some (.int (nI (2000 * o' + i')))] [] h := by
          simp only [r102, hv.c, if_true, kst, Option.bind_some, Option.toList_some, List.cons_append, List.nil_append, hv.g, mo_g, hv.ld 1 (by decide) (by decide) (q := o') (show _ < 3 from ho3), g1, hsrt, hv.ld 13 (by decide) (by decide) (q := o') (show _ < 3 from ho3), g6, k_no, if_neg t1, hfr]
        rw [go]
        unfold sp_lineQ
        rw [hx]
        simp only
        rw [if_pos hsrt, hy]
        simp only
        by_cases w0 : w = 0
        · simp only [if_pos w0, r102, hv.g, mo_g, Option.bind_some, hv.ld 14 (by decide) (by decide) (q := 2000 * o' + i') b1, y1]
        · by_cases w1 : w = 1
          · simp only [if_neg w0, if_pos w1, r102, hv.g, mo_g, Option.bind_some, hv.ld 15 (by decide) (by decide) (q := 2000 * o' + i') b1, y2]
          · by_cases w2 : w = 2
            · simp only [if_neg w0, if_neg w1, if_pos w2, r102, hv.g, mo_g, Option.bind_some, hv.ld 16 (by decide) (by decide) (q := 2000 * o' + i') b1, y3]
            · by_cases w3 : w = 3
              · simp only [if_neg w0, if_neg w1, if_neg w2, if_pos w3, r102, hv.g, mo_g, Option.bind_some, hv.ld 17 (by decide) (by decide) (q := 2000 * o' + i') b1, y4]
              · simp only [if_neg w0, if_neg w1, if_neg w2, if_neg w3, r102]
    · have e : sp_lineQ S (nI o') i w = q_NO := by unfold sp_lineQ; rw [hx]; simp only; rw [if_neg hsrt]
      rw [e]
      simp only [r102, hv.c, if_true, kst, Option.bind_some, Option.toList_some, List.cons_append, List.nil_append, hv.g, mo_g, hv.ld 1 (by decide) (by decide) (q := o') (show _ < 3 from ho3), g1, if_neg hsrt]
theorem key_ix {k : Int32} : (am_ix k 10 = none ↔ (k < 0 ∨ 9 < k)) := by
  unfold am_ix
  have z0 : (0 : Int32).toInt = 0 := rfl
  have z9 : (9 : Int32).toInt = 9 := rfl
  rw [i_lt, i_lt, z0, z9]
  split
  · constructor
    · intro q; cases q
    · omega
  · constructor
    · omega
    · intro _; rfl
theorem k_lastQ (P : Nat × Nat) (hs : MS M n s mem pd h S) (hk : KI S c) (hc : c < 100) (o k w : Int32) : am_E P 103 0 [some (.ref M), some (.int o), some (.int k), some (.int w), none] [] h = some (some (.long (sp_lastQ S o k w)), h) := by
  obtain ⟨f, F, hv, hf, hF, hpd⟩ := id hs
  have h3 := hk.1.1.1.2.2.1
  have kst := k_strange P hs o
  have z : ¬ (1 : Int32) = 0 := by decide
  cases hx : am_ix o (S.1 0 0 0) with
  | none =>
    have e : sp_lastQ S o k w = q_NO := by unfold sp_lastQ; rw [hx]
    rw [e]
    rw [if_pos (str_N (by omega) hx)] at kst
    simp only [r103, hv.c, if_true, kst, Option.bind_some, Option.toList_some, List.cons_append, List.nil_append, if_neg z]
  | some o' =>
    obtain ⟨s1, s2, s3⟩ := str_S (by omega) hx
    rw [if_neg s1] at kst
    have ho3 : o' < 3 := by omega
    obtain ⟨g1, g2, g3, g4, g5, g6⟩ := hF.1 o' ho3
    subst s2
    by_cases hsrt : S.2 1 o' 0 = 1
    · cases hy : am_ix k 10 with
      | none =>
        have e : sp_lastQ S (nI o') k w = q_NO := by unfold sp_lastQ; rw [hx]; simp only; rw [if_pos hsrt, hy]
        rw [e]
        have := key_ix.mp hy
        simp only [r103, hv.c, if_true, kst, Option.bind_some, Option.toList_some, List.cons_append, List.nil_append, hv.g, mo_g, hv.ld 1 (by decide) (by decide) (q := o') (show _ < 3 from ho3), g1, hsrt, k_no, if_pos this, if_neg z]
      | some k' =>
        have t1 : ¬ (k < 0 ∨ 9 < k) := fun q => by rw [key_ix.mpr q] at hy; cases hy
        obtain ⟨t3, t2⟩ := ix_some hy
        have t2 := t2 (by decide)
        subst t2
        have ix : (10 : Int32) * nI o' + nI k' = nI (10 * o' + k') := by rw [show (10 : Int32) = nI 10 from rfl, nI_m, nI_add]
        obtain ⟨y1, y2, y3⟩ := hF.2.2.2.2.1 o' k' ho3 t3
        have b1 : 10 * o' + k' < 30 := by omega
        unfold sp_lastQ
        rw [hx]
        simp only
        rw [if_pos hsrt, hy]
        simp only
        by_cases h6 : S.2 10 o' k' = -6
        · simp only [r103, hv.c, if_true, kst, Option.bind_some, Option.toList_some, List.cons_append, List.nil_append, hv.g, mo_g, hv.ld 1 (by decide) (by decide) (q := o') (show _ < 3 from ho3), g1, hsrt, k_no, if_neg t1, ix, hv.ld 18 (by decide) (by decide) (q := 10 * o' + k') b1, y1, if_pos h6]
        · have go : am_E P 103 0 [some (.ref M), some (.int (nI o')), some (.int (nI k')), some (.int w), none] [] h = am_E P 103 56 [some (.ref M), some (.int (nI o')), some (.int (nI k')), some (.int w), some (.int (nI (10 * o' + k')))] [] h := by
            simp only [r103, hv.c, if_true, kst, Option.bind_some, Option.toList_some, List.cons_append, List.nil_append, hv.g, mo_g, hv.ld 1 (by decide) (by decide) (q := o') (show _ < 3 from ho3), g1, hsrt, k_no, if_neg t1, ix, hv.ld 18 (by decide) (by decide) (q := 10 * o' + k') b1, y1, if_neg h6]
          rw [go, if_neg h6]
          by_cases w0 : w = 0
          · simp only [if_pos w0, r103, hv.g, mo_g, Option.bind_some, hv.ld 20 (by decide) (by decide) (q := 10 * o' + k') b1, y3]
          · by_cases w1 : w = 1
            · simp only [if_neg w0, if_pos w1, r103, hv.g, mo_g, Option.bind_some, hv.ld 18 (by decide) (by decide) (q := 10 * o' + k') b1, y1]
            · by_cases w2 : w = 2
              · simp only [if_neg w0, if_neg w1, if_pos w2, r103, hv.g, mo_g, Option.bind_some, hv.ld 19 (by decide) (by decide) (q := 10 * o' + k') b1, y2]
              · simp only [if_neg w0, if_neg w1, if_neg w2, r103]
    · have e : sp_lastQ S (nI o') k w = q_NO := by unfold sp_lastQ; rw [hx]; simp only; rw [if_neg hsrt]
      rw [e]
      simp only [r103, hv.c, if_true, kst, Option.bind_some, Option.toList_some, List.cons_append, List.nil_append, hv.g, mo_g, hv.ld 1 (by decide) (by decide) (q := o') (show _ < 3 from ho3), g1, if_neg hsrt]
theorem k_seen (P : Nat × Nat) (hs : MS M n s mem pd h S) (hk : KI S c) (hc : c < 100) (r k : Int32) : am_E P 106 0 [some (.ref M), some (.int r), some (.int k), none, none] [] h = some (some (.int (sp_seen S r k)), h) := by
  obtain ⟨f, F, hv, hf, hF, hpd⟩ := id hs
  obtain ⟨f1, f2, f3, f4, f5, f6, f7, f8, f9, f10⟩ := id hf
  obtain ⟨r4, rr⟩ := hk.1.2.2.2.2.2.2.2.2.2.2
  have h3 := hk.1.1.1.2.2.1
  have z : ¬ (1 : Int32) = 0 := by decide
  cases hx : am_ix r (S.1 3 0 0) with
  | none =>
    have e : sp_seen S r k = -1 := by unfold sp_seen; rw [hx]
    rw [e]
    have := str_N (by omega) hx
    simp only [r106, hv.g, mo_g, f3, Option.bind_some, k_no, if_pos this, Option.toList_some, List.cons_append, List.nil_append, if_neg z]
  | some r' =>
    obtain ⟨s1, s2, s3⟩ := str_S (by omega) hx
    subst s2
    obtain ⟨x1, x2, x3⟩ := rr r' s3
    obtain ⟨g21, g22⟩ := hF.2.2.2.2.2.1 r' s3
    have hnl := hk.1.1.1.lines (S.1 7 r' 0)
    have hnr := (hk.gv hc 0).2
    have b1 : r' < 4 := by omega
    unfold sp_seen
    rw [hx]
    simp only
    by_cases c1 : k = -6
    · have loop : ∀ j i, i + j = S.1 8 r' 0 → am_E P 106 40 [some (.ref M), some (.int (nI r')), some (.int k), some (.int (nI i)), some (.int (nI i))] [] h = some (some (.int (nI (S.1 8 r' 0))), h) := by
        intro j
        induction j with
        | zero =>
          intro i hi
          obtain rfl : i = S.1 8 r' 0 := by omega
          have c2 : nI (S.1 8 r' 0) ≤ nI (S.1 8 r' 0) := Int32.le_refl _
          rw [hd106_40]
          simp only [r106, hv.g, mo_g, Option.bind_some, hv.ld 22 (by decide) (by decide) (q := r') b1, g22, if_pos c2]
        | succ j ih =>
          intro i hi
          have ih := ih (i + 1) (by omega)
          rw [← ih]
          have c2 : ¬ nI (S.1 8 r' 0) ≤ nI i := nI_ge (by omega) (by omega)
          conv => lhs; rw [hd106_40]
          simp only [r106, hv.g, mo_g, Option.bind_some, hv.ld 22 (by decide) (by decide) (q := r') b1, g22, if_neg c2, c1, if_true, nI_1]
      have l0 := loop _ 0 (Nat.zero_add _)
      have zz : (0 : Int32) = nI 0 := rfl
      rw [← zz] at l0
      rw [if_pos c1]
      simp only [r106, hv.g, mo_g, f3, Option.bind_some, k_no, if_neg s1, Option.toList_some, List.cons_append, List.nil_append, if_true, if_pos c1]
      exact l0
    · by_cases c3 : k < 0 ∨ 9 < k
      · rw [if_neg c1, if_pos c3]
        simp only [r106, hv.g, mo_g, f3, Option.bind_some, k_no, if_neg s1, Option.toList_some, List.cons_append, List.nil_append, if_true, if_neg c1, if_pos c3, if_neg z]
      · have loop : ∀ j i, i + j = S.1 8 r' 0 → am_E P 106 40 [some (.ref M), some (.int (nI r')), some (.int k), some (.int (nI (q_cnt S (S.1 7 r' 0) k i))), some (.int (nI i))] [] h = some (some (.int (nI (q_cnt S (S.1 7 r' 0) k (S.1 8 r' 0)))), h) := by
          intro j
          induction j with
          | zero =>
            intro i hi
            obtain rfl : i = S.1 8 r' 0 := by omega
            have c2 : nI (S.1 8 r' 0) ≤ nI (S.1 8 r' 0) := Int32.le_refl _
            rw [hd106_40]
            simp only [r106, hv.g, mo_g, Option.bind_some, hv.ld 22 (by decide) (by decide) (q := r') b1, g22, if_pos c2]
          | succ j ih =>
            intro i hi
            have ih := ih (i + 1) (by omega)
            rw [← ih]
            have c2 : ¬ nI (S.1 8 r' 0) ≤ nI i := nI_ge (by omega) (by omega)
            have hfr : nI (S.1 7 r' 0) * 100 * 20 + nI i = nI (2000 * S.1 7 r' 0 + i) := by
              rw [show (100 : Int32) = nI 100 from rfl, show (20 : Int32) = nI 20 from rfl, nI_m, nI_m, nI_add]
              congr 1
              omega
            have y1 := (hF.2.2.2.1 (S.1 7 r' 0) i (by omega) (by omega)).1
            have b2 : 2000 * S.1 7 r' 0 + i < 6000 := by omega
            conv => lhs; rw [hd106_40]
            simp only [r106, hv.g, mo_g, Option.bind_some, hv.ld 22 (by decide) (by decide) (q := r') b1, g22, if_neg c2, if_neg c1, hv.ld 21 (by decide) (by decide) (q := r') b1, g21, hfr, hv.ld 14 (by decide) (by decide) (q := 2000 * S.1 7 r' 0 + i) b2, y1]
            rw [show q_cnt S (S.1 7 r' 0) k (i + 1) = q_cnt S (S.1 7 r' 0) k i + (if S.2 6 (S.1 7 r' 0) i = k then 1 else 0) from rfl]
            by_cases c4 : S.2 6 (S.1 7 r' 0) i = k
            · simp only [c4, if_true, r106, nI_1]
            · simp only [c4, if_false, r106, Int32.add_zero, Nat.add_zero, nI_1]
        have l0 := loop _ 0 (Nat.zero_add _)
        have zz : (0 : Int32) = nI 0 := rfl
        have zq : nI (q_cnt S (S.1 7 r' 0) k 0) = 0 := rfl
        rw [zq, ← zz] at l0
        rw [if_neg c1, if_neg c3]
        simp only [r106, hv.g, mo_g, f3, Option.bind_some, k_no, if_neg s1, Option.toList_some, List.cons_append, List.nil_append, if_true, if_neg c1, if_neg c3]
        exact l0
theorem k_recQ (P : Nat × Nat) (hs : MS M n s mem pd h S) (hk : KI S c) (hc : c < 100) (i w : Int32) : am_E P 107 0 [some (.ref M), some (.int i), some (.int w)] [] h = some (some (.int (sp_recQ S i w)), h) := by
  obtain ⟨f, F, hv, hf, hF, hpd⟩ := id hs
  obtain ⟨f1, f2, f3, f4, f5, f6, f7, f8, f9, f10⟩ := id hf
  have hnr := (hk.gv hc 0).2
  have z : ¬ (1 : Int32) = 0 := by decide
  cases hx : am_ix i (S.1 1 0 0) with
  | none =>
    have e : sp_recQ S i w = -1 := by unfold sp_recQ; rw [hx]
    rw [e]
    have := str_N (by omega) hx
    simp only [r107, hv.g, mo_g, f2, Option.bind_some, k_no, if_pos this, Option.toList_some, List.cons_append, List.nil_append, if_neg z]
  | some i' =>
    obtain ⟨s1, s2, s3⟩ := str_S (by omega) hx
    subst s2
    obtain ⟨y0, y1, y2, y3, y4⟩ := hF.2.2.1 i' s3
    have b1 : i' < 4000 := by omega
    have go : am_E P 107 0 [some (.ref M), some (.int (nI i')), some (.int w)] [] h = am_E P 107 16 [some (.ref M), some (.int (nI i')), some (.int w)] [] h := by
      simp only [r107, hv.g, mo_g, f2, Option.bind_some, k_no, if_neg s1, Option.toList_some, List.cons_append, List.nil_append, if_true]
    rw [go]
    unfold sp_recQ
    rw [hx]
    simp only
    by_cases w0 : w = 0
    · simp only [if_pos w0, r107, hv.g, mo_g, Option.bind_some, hv.ld 8 (by decide) (by decide) (q := i') b1, y0]
    · by_cases w1 : w = 1
      · simp only [if_neg w0, if_pos w1, r107, hv.g, mo_g, Option.bind_some, hv.ld 9 (by decide) (by decide) (q := i') b1, y1]
      · by_cases w2 : w = 2
        · simp only [if_neg w0, if_neg w1, if_pos w2, r107, hv.g, mo_g, Option.bind_some, hv.ld 10 (by decide) (by decide) (q := i') b1, y2]
        · by_cases w3 : w = 3
          · simp only [if_neg w0, if_neg w1, if_neg w2, if_pos w3, r107, hv.g, mo_g, Option.bind_some, hv.ld 11 (by decide) (by decide) (q := i') b1, y3]
          · by_cases w4 : w = 4
            · simp only [if_neg w0, if_neg w1, if_neg w2, if_neg w3, if_pos w4, r107, hv.g, mo_g, Option.bind_some, hv.ld 12 (by decide) (by decide) (q := i') b1, y4]
            · simp only [if_neg w0, if_neg w1, if_neg w2, if_neg w3, if_neg w4, r107]
theorem k_told (P : Nat × Nat) (hs : MS M n s mem pd h S) (hk : KI S c) (hc : c < 100) (w : Int32) : am_E P 108 0 [some (.ref M), some (.int w)] [] h = some (some (.int (sp_told S w)), h) := by
  obtain ⟨f, F, hv, hf, hF, hpd⟩ := id hs
  obtain ⟨f1, f2, f3, f4, f5, f6, f7, f8, f9, f10⟩ := id hf
  have kg := k_greatest P hs (by have := hk.1.2.2.1; omega)
  unfold sp_told
  by_cases w0 : w = 0
  · simp only [if_pos w0, r108, hv.g, mo_g, Option.bind_some, f1]
  · by_cases w1 : w = 1
    · simp only [if_neg w0, if_pos w1, r108, hv.g, mo_g, Option.bind_some, f2]
    · by_cases w2 : w = 2
      · simp only [if_neg w0, if_neg w1, if_pos w2, r108, hv.g, mo_g, Option.bind_some, f4]
      · by_cases w3 : w = 3
        · simp only [if_neg w0, if_neg w1, if_neg w2, if_pos w3, r108, hv.c, if_true, kg, Option.bind_some, Option.toList_some, List.cons_append, List.nil_append]
        · by_cases w4 : w = 4
          · by_cases d : S.2 0 1 0 = 0
            · simp only [if_neg w0, if_neg w1, if_neg w2, if_neg w3, if_pos w4, r108, hv.g, mo_g, Option.bind_some, f7, d, if_true]
            · simp only [if_neg w0, if_neg w1, if_neg w2, if_neg w3, if_pos w4, r108, hv.g, mo_g, Option.bind_some, f7, if_neg d]
          · by_cases w5 : w = 5
            · by_cases d : S.2 0 2 0 = 0
              · simp only [if_neg w0, if_neg w1, if_neg w2, if_neg w3, if_neg w4, if_pos w5, r108, hv.g, mo_g, Option.bind_some, f8, d, if_true]
              · simp only [if_neg w0, if_neg w1, if_neg w2, if_neg w3, if_neg w4, if_pos w5, r108, hv.g, mo_g, Option.bind_some, f8, if_neg d]
            · by_cases w6 : w = 6
              · simp only [if_neg w0, if_neg w1, if_neg w2, if_neg w3, if_neg w4, if_neg w5, if_pos w6, r108, hv.g, mo_g, Option.bind_some, f10]
              · by_cases w7 : w = 7
                · simp only [if_neg w0, if_neg w1, if_neg w2, if_neg w3, if_neg w4, if_neg w5, if_neg w6, if_pos w7, r108, hv.g, mo_g, Option.bind_some, f6]
                · by_cases w8 : w = 8
                  · simp only [if_neg w0, if_neg w1, if_neg w2, if_neg w3, if_neg w4, if_neg w5, if_neg w6, if_neg w7, if_pos w8, r108, hv.g, mo_g, Option.bind_some, f3]
                  · simp only [if_neg w0, if_neg w1, if_neg w2, if_neg w3, if_neg w4, if_neg w5, if_neg w6, if_neg w7, if_neg w8, r108]
end MQ
