/-! Records and parts tell the same. -/
theorem q_rows_c {S T : sp} {o p : Int32} : ∀ {n : Nat}, (∀ i c, i < n → S.2 4 i c = T.2 4 i c) → q_rows S o p n = q_rows T o p n := by
  intro n
  induction n with
  | zero => intro _; rfl
  | succ n ih =>
    intro h
    unfold q_rows
    rw [ih (fun i c hi => h i c (by omega)), h n 0 (by omega), h n 1 (by omega), h n 2 (by omega)]
theorem q_st_c {S T : sp} {o p : Int32} : ∀ {n : Nat}, (∀ i c, i < n → S.2 4 i c = T.2 4 i c) → q_st S o p n = q_st T o p n := by
  intro n
  induction n with
  | zero => intro _; rfl
  | succ n ih =>
    intro h
    unfold q_st
    rw [ih (fun i c hi => h i c (by omega)), h n 0 (by omega), h n 1 (by omega), h n 2 (by omega)]
theorem q_mk_c {S T : sp} {o p : Int32} : ∀ {n : Nat}, (∀ i c, i < n → S.2 4 i c = T.2 4 i c) → q_mk S o p n = q_mk T o p n := by
  intro n
  induction n with
  | zero => intro _; rfl
  | succ n ih =>
    intro h
    unfold q_mk
    rw [ih (fun i c hi => h i c (by omega)), h n 0 (by omega), h n 1 (by omega), h n 2 (by omega), h n 3 (by omega)]
/-- the greatest mark that was kept, whether it was the end, how many parts an output has: by the records -/
def q_mx (S : sp) : Nat → Int32
  | 0 => -6
  | i + 1 => if S.2 4 i 0 = 2 ∨ S.2 4 i 0 = 5 then (if S.2 4 i 3 < q_mx S i then q_mx S i else S.2 4 i 3) else q_mx S i
def q_en (S : sp) : Nat → Int32
  | 0 => 0
  | i + 1 => if S.2 4 i 0 = 5 then 1 else q_en S i
def q_gv (S : sp) (o : Int32) : Nat → Int32
  | 0 => 0
  | i + 1 => if (S.2 4 i 0 = 2 ∨ S.2 4 i 0 = 5) ∨ S.2 4 i 1 ≠ o then q_gv S o i else (if S.2 4 i 2 + 1 < q_gv S o i then q_gv S o i else S.2 4 i 2 + 1)
theorem q_mx_c {S T : sp} : ∀ {n : Nat}, (∀ i c, i < n → S.2 4 i c = T.2 4 i c) → q_mx S n = q_mx T n := by
  intro n
  induction n with
  | zero => intro _; rfl
  | succ n ih =>
    intro h
    unfold q_mx
    rw [ih (fun i c hi => h i c (by omega)), h n 0 (by omega), h n 3 (by omega)]
theorem q_en_c {S T : sp} : ∀ {n : Nat}, (∀ i c, i < n → S.2 4 i c = T.2 4 i c) → q_en S n = q_en T n := by
  intro n
  induction n with
  | zero => intro _; rfl
  | succ n ih =>
    intro h
    unfold q_en
    rw [ih (fun i c hi => h i c (by omega)), h n 0 (by omega)]
theorem q_gv_c {S T : sp} {o : Int32} : ∀ {n : Nat}, (∀ i c, i < n → S.2 4 i c = T.2 4 i c) → q_gv S o n = q_gv T o n := by
  intro n
  induction n with
  | zero => intro _; rfl
  | succ n ih =>
    intro h
    unfold q_gv
    rw [ih (fun i c hi => h i c (by omega)), h n 0 (by omega), h n 1 (by omega), h n 2 (by omega)]
/-- a part by its records -/
def co_p (S : sp) (o p : Nat) : Prop :=
  q_st S (nI o) (nI p) (S.1 1 0 0) = nI (S.1 11 o p) ∧ S.1 11 o p ≤ 3 ∧
  q_mk S (nI o) (nI p) (S.1 1 0 0) = (if S.1 11 o p = 0 then none else some (S.2 13 o p)) ∧
  (∀ i, i < S.1 1 0 0 → ((S.2 4 i 0 = 0 ∧ S.2 4 i 1 = nI o ∧ S.2 4 i 2 = nI p) ↔ (S.1 9 o p ≤ i ∧ i < S.1 9 o p + S.1 10 o p))) ∧
  S.1 9 o p + S.1 10 o p ≤ S.1 1 0 0 ∧ q_rows S (nI o) (nI p) (S.1 1 0 0) = S.1 10 o p
def CO (S : sp) : Prop :=
  (∀ o p, o < 3 → p < S.1 5 o 0 → co_p S o p) ∧ (∀ o i, o < 3 → i < S.1 1 0 0 → S.2 4 i 1 = nI o → ∃ p, p < S.1 5 o 0 ∧ S.2 4 i 2 = nI p) ∧ (∀ o, o < 3 → S.1 5 o 0 < 1000) ∧
  (∀ i, i < S.1 1 0 0 → ((S.2 4 i 0 = 2 ∨ S.2 4 i 0 = 5) ∧ S.2 4 i 1 = -6 ∧ S.2 4 i 2 = -6) ∨ (S.2 4 i 0 ≠ 2 ∧ S.2 4 i 0 ≠ 5 ∧ ∃ o, o < S.1 0 0 0 ∧ S.2 4 i 1 = nI o)) ∧
  (∀ i, i < S.1 1 0 0 → S.2 4 i 0 = 0 → 0 ≤ S.2 4 i 3 ∧ S.2 4 i 3 < 10) ∧
  S.2 0 0 0 = q_mx S (S.1 1 0 0) ∧ S.2 0 1 0 = q_en S (S.1 1 0 0) ∧ (∀ o, o < 3 → nI (S.1 5 o 0) = q_gv S (nI o) (S.1 1 0 0))
/-- the same records, the same parts -/
theorem CO.same {S T : sp} (hc : CO S) (hr : ∀ i c, i < S.1 1 0 0 → T.2 4 i c = S.2 4 i c) (h0 : T.1 0 0 0 = S.1 0 0 0) (h1 : T.1 1 0 0 = S.1 1 0 0) (h5 : ∀ o, o < 3 → T.1 5 o 0 = S.1 5 o 0) (hp : ∀ o p, o < 3 → p < S.1 5 o 0 → T.1 9 o p = S.1 9 o p ∧ T.1 10 o p = S.1 10 o p ∧ T.1 11 o p = S.1 11 o p ∧ T.2 13 o p = S.2 13 o p) (hm : T.2 0 0 0 = S.2 0 0 0) (he : T.2 0 1 0 = S.2 0 1 0) : CO T := by
  obtain ⟨a1, a2, a3, a4, a5, a6, a7, a8⟩ := hc
  refine ⟨fun o p ho hpp => ?_, fun o i ho hi => ?_, fun o ho => by rw [h5 o ho]; exact a3 o ho, fun i hi => ?_, fun i hi => ?_, ?_, ?_, fun o ho => ?_⟩
  · rw [h5 o ho] at hpp
    obtain ⟨b1, b2, b3, b4, b5, b6⟩ := a1 o p ho hpp
    obtain ⟨c1, c2, c3, c4⟩ := hp o p ho hpp
    refine ⟨?_, by rw [c3]; exact b2, ?_, fun i hi => ?_, by rw [h1, c1, c2]; exact b5, ?_⟩
    · rw [h1, c3, q_st_c hr]; exact b1
    · rw [h1, c3, c4, q_mk_c hr]; exact b3
    · rw [h1] at hi
      rw [hr i 0 hi, hr i 1 hi, hr i 2 hi, c1, c2]
      exact b4 i hi
    · rw [h1, c2, q_rows_c hr]; exact b6
  · rw [h1] at hi
    rw [hr i 1 hi, hr i 2 hi, h5 o ho]
    exact a2 o i ho hi
  · rw [h1] at hi
    rw [hr i 0 hi, hr i 1 hi, hr i 2 hi, h0]
    exact a4 i hi
  · rw [h1] at hi
    rw [hr i 0 hi, hr i 3 hi]
    exact a5 i hi
  · rw [hm, h1, q_mx_c hr]; exact a6
  · rw [he, h1, q_en_c hr]; exact a7
  · rw [h5 o ho, h1, q_gv_c hr]; exact a8 o ho
theorem CO.act {S : sp} (hc : CO S) : CO (sp_act S).2 :=
  hc.same (fun i c _ => sa_V (by decide)) (sa_N (by decide)) (sa_N (by decide)) (fun o _ => sa_N (by decide)) (fun o p _ _ => ⟨sa_N (by decide), sa_N (by decide), sa_N (by decide), sa_V (by decide)⟩) (sa_V0 (by decide) (by decide) (by decide)) (sa_V0 (by decide) (by decide) (by decide))
/-- the record that was written last -/
theorem sr_new {S : sp} {k o p n v : Int32} (h : (sp_rec S k o p n v).1 = true) : (sp_rec S k o p n v).2.2 4 (S.1 1 0 0) 0 = k ∧ (sp_rec S k o p n v).2.2 4 (S.1 1 0 0) 1 = o ∧ (sp_rec S k o p n v).2.2 4 (S.1 1 0 0) 2 = p ∧ (sp_rec S k o p n v).2.2 4 (S.1 1 0 0) 3 = n ∧ (sp_rec S k o p n v).2.2 4 (S.1 1 0 0) 4 = v := by
  rw [(sr_T h).2]
  simp [sp_app, sN_2, sV_2, sa_N]
/-- a part that the new record isn't of -/
theorem co_p.other {S T : sp} {a b : Nat} (hc : co_p S a b) (hr : ∀ i c, i < S.1 1 0 0 → T.2 4 i c = S.2 4 i c) (h1 : T.1 1 0 0 = S.1 1 0 0 + 1) (hn : ¬ (T.2 4 (S.1 1 0 0) 1 = nI a ∧ T.2 4 (S.1 1 0 0) 2 = nI b)) (h9 : T.1 9 a b = S.1 9 a b) (h10 : T.1 10 a b = S.1 10 a b) (h11 : T.1 11 a b = S.1 11 a b) (h13 : T.2 13 a b = S.2 13 a b) : co_p T a b := by
  obtain ⟨b1, b2, b3, b4, b5, b6⟩ := hc
  refine ⟨?_, by rw [h11]; exact b2, ?_, fun i hi => ?_, by rw [h1, h9, h10]; omega, ?_⟩
  · rw [h1, h11]
    unfold q_st
    rw [if_neg hn, q_st_c hr]
    exact b1
  · rw [h1, h11, h13]
    unfold q_mk
    rw [q_mk_c hr, b3]
    split
    · rename_i m hm
      exact hm.symm
    · rename_i hm
      rw [if_neg (fun q => hn q.2)]
      exact hm.symm
  · rw [h9, h10]
    by_cases hi2 : i = S.1 1 0 0
    · subst hi2
      constructor
      · intro q; exact absurd q.2 hn
      · intro q; omega
    · rw [h1] at hi
      have hi3 : i < S.1 1 0 0 := by omega
      rw [hr i 0 hi3, hr i 1 hi3, hr i 2 hi3]
      exact b4 i hi3
  · rw [h1, h10]
    unfold q_rows
    rw [q_rows_c hr, b6, if_neg (fun q => hn q.2)]
    rfl
