/-! The calls on the pure state; the invariant between calls. -/
def sp_output (S : sp) (x : Int32) : Int32 × sp := if x ≠ 0 ∧ x ≠ 1 then (-2, S) else if S.2 0 2 0 ≠ 0 then (-5, S) else if 0 < S.2 0 5 0 then (-3, S) else if S.1 0 0 0 = 3 then (-4, S) else (nI (S.1 0 0 0), sN (sV S 1 (S.1 0 0 0) 0 x) 0 0 0 (S.1 0 0 0 + 1))
def sp_write (S : sp) (o k v : Int32) : Int32 × sp := match am_ix o (S.1 0 0 0) with
  | none => (-1, S)
  | some o' => if k < 0 ∨ 9 < k then (-2, S) else if S.2 0 2 0 ≠ 0 then (-5, S) else if S.2 0 1 0 ≠ 0 then (-3, S) else if S.1 4 o' 0 = 20 then (-4, S) else (nI (S.1 4 o' 0 + 1), sN (sV (sV S 2 o' (S.1 4 o' 0) k) 3 o' (S.1 4 o' 0) v) 4 o' 0 (S.1 4 o' 0 + 1))
def sp_barrier (S : sp) (m : Int32) : Int32 × sp := if sp_bars S m ≠ 0 then (sp_bars S m, S) else sp_bar S m
def q_bh (S : sp) (m : Int32) : Nat → Bool
  | 0 => false
  | i + 1 => q_bh S m i || decide (S.2 5 i 0 = m)
def sp_keep (S : sp) (m : Int32) : Int32 × sp := if q_bh S m (S.1 2 0 0) = false ∨ m ≤ S.2 0 0 0 then (-2, S) else if S.2 0 2 0 ≠ 0 then (-5, S) else if (sp_rec S 2 (-6) (-6) m (-6)).1 = true then sp_shown (sV (sp_rec S 2 (-6) (-6) m (-6)).2 0 0 0 m) else (-5, (sp_rec S 2 (-6) (-6) m (-6)).2)
def sp_show (S : sp) : Int32 × sp := if S.2 0 2 0 ≠ 0 then (-5, S) else sp_shown S
def sp_end (S : sp) (m : Int32) : Int32 × sp := if sp_bars S m ≠ 0 then (sp_bars S m, S) else if (sp_bar S m).1 < 0 then (-5, (sp_bar S m).2) else if (sp_rec (sp_bar S m).2 5 (-6) (-6) m (-6)).1 = true then sp_shown (sV (sV (sp_rec (sp_bar S m).2 5 (-6) (-6) m (-6)).2 0 0 0 m) 0 1 0 1) else (-5, (sp_rec (sp_bar S m).2 5 (-6) (-6) m (-6)).2)
def sp_fails (S : sp) (o n : Int32) : Int32 × sp := match am_ix o (S.1 0 0 0) with
  | none => (-1, S)
  | some o' => if n < 0 ∨ 100 < n then (-2, S) else (S.2 1 o' 2, sV S 1 o' 2 n)
def sp_power (S : sp) (k : Int32) : Int32 × sp := if k ≠ -6 ∧ (k < 1 ∨ 5000 < k) then (-2, S) else if S.2 0 2 0 ≠ 0 then (-5, S) else (1, sV S 0 3 0 (if k = -6 then 0 else k))
def sp_reader (S : sp) (o : Int32) : Int32 × sp := match am_ix o (S.1 0 0 0) with
  | none => (-1, S)
  | some o' => if S.2 1 o' 0 ≠ 0 then (-3, S) else if S.1 3 0 0 = 4 then (-4, S) else (nI (S.1 3 0 0), sN (sN (sN S 7 (S.1 3 0 0) 0 o') 8 (S.1 3 0 0) 0 0) 3 0 0 (S.1 3 0 0 + 1))
/-- how far a reader goes -/
def q_more (S : sp) (r n : Nat) : Nat := if n < S.1 6 (S.1 7 r 0) 0 - S.1 8 r 0 then n else S.1 6 (S.1 7 r 0) 0 - S.1 8 r 0
def sp_read (S : sp) (r n : Int32) : Int32 × sp := match am_ix r (S.1 3 0 0) with
  | none => (-1, S)
  | some r' => if n < 1 ∨ 100 < n then (-2, S) else (nI (q_more S r' n.toNatClampNeg), sN S 8 r' 0 (S.1 8 r' 0 + q_more S r' n.toNatClampNeg))
/-- the invariant between calls, behind c calls -/
def KJ (S : sp) (c : Nat) : Prop := JN S ∧ PH S ≤ 3 * c ∧ S.1 2 0 0 ≤ c ∧ (∃ md, md ≤ c ∧ S.2 0 5 0 = nI md) ∧ (∀ o, S.1 4 o 0 ≤ 20) ∧ (∀ o j, o < 3 → j < S.1 4 o 0 → 0 ≤ S.2 2 o j ∧ S.2 2 o j < 10) ∧
  (∀ o, S.1 0 0 0 ≤ o → S.1 4 o 0 = 0 ∧ S.2 1 o 1 = 0 ∧ S.2 1 o 2 = 0 ∧ ∀ k, k < 10 → S.2 10 o k = -6 ∧ S.2 11 o k = 0 ∧ S.2 12 o k = 0) ∧
  (∀ i, i < S.1 2 0 0 → 0 ≤ S.2 5 i 0 ∧ S.2 5 i 0 ≤ 1000000 ∧ (i + 1 < S.1 2 0 0 → S.2 5 i 0 < S.2 5 (i + 1) 0)) ∧
  (S.2 0 2 0 = 0 ∨ S.2 0 2 0 = 1) ∧ (∀ o, o < S.1 0 0 0 → (S.2 1 o 0 = 0 ∨ S.2 1 o 0 = 1) ∧ S.2 1 o 2 ≤ 100) ∧
  (S.1 3 0 0 ≤ 4 ∧ ∀ r, r < S.1 3 0 0 → S.1 7 r 0 < S.1 0 0 0 ∧ S.2 1 (S.1 7 r 0) 0 = 0 ∧ S.1 8 r 0 ≤ S.1 6 (S.1 7 r 0) 0)
/-- a part that waits: its mark is kept, or its barrier is there -/
def KL (S : sp) : Prop := S.2 0 2 0 = 0 → ∀ o p, p < S.1 5 o 0 → S.1 11 o p = 1 → S.2 13 o p ≤ S.2 0 0 0 ∨ ∃ i, i < S.1 2 0 0 ∧ S.2 5 i 0 = S.2 13 o p
def KI (S : sp) (c : Nat) : Prop := KJ S c ∧ KL S
theorem KJ.mono {S : sp} {c : Nat} (h : KJ S c) : KJ S (c + 1) := by
  obtain ⟨a1, a2, a3, ⟨md, a4, a5⟩, a6⟩ := h
  exact ⟨a1, by omega, by omega, ⟨md, by omega, a5⟩, a6⟩
theorem KI.mono {S : sp} {c : Nat} (h : KI S c) : KI S (c + 1) := ⟨h.1.mono, h.2⟩
/-- outputs that there aren't yet -/
def OT (S T : sp) : Prop := ∀ a b c, S.1 0 0 0 ≤ b → a = 1 ∨ a = 10 ∨ a = 11 ∨ a = 12 → T.2 a b c = S.2 a b c
theorem OT.trans {S T U : sp} (h : OT S T) (g : OT T U) (h0 : T.1 0 0 0 = S.1 0 0 0) : OT S U := fun a b c hb ha => (g a b c (by omega) ha).trans (h a b c hb ha)
theorem OT.act (S : sp) : OT S (sp_act S).2 := fun a b c _ ha => sa_V (by omega)
theorem OT.rec {S : sp} {k o p n v : Int32} : OT S (sp_rec S k o p n v).2 := fun a b c _ ha => sr_V (by omega) (by omega)
theorem OT.showR {o p : Nat} : ∀ (c pl w : Nat) (S : sp), o < S.1 0 0 0 → OT S (sp_showR o p c pl w S).2 := by
  intro c
  induction c with
  | zero => intro pl w S _ a b c _ _; rfl
  | succ c ih =>
    intro pl w S ho
    unfold sp_showR
    split
    · have h0 : (sp_come (sp_act S).2 o p pl (S.1 9 o p + pl)).2.1 0 0 0 = S.1 0 0 0 := by
        rw [(sp_come_keep (S := (sp_act S).2) (o := o) (p := p) (pl := pl) (r := S.1 9 o p + pl)).1 0 0 0 (by decide) (by decide) (by decide)]
        exact sa_N (by decide)
      refine OT.trans (T := (sp_come (sp_act S).2 o p pl (S.1 9 o p + pl)).2) (fun a b c hb ha => ?_) (ih _ _ _ (by rw [h0]; exact ho)) h0
      rw [(sp_come_oth (S := (sp_act S).2) (o := o) (p := p) (pl := pl) (r := S.1 9 o p + pl) (a := a) (b := b) (c := c) (by omega)).2]
      exact sa_V (by omega)
    · exact OT.act S
theorem OT.showP {S : sp} {o p : Nat} (ho : o < S.1 0 0 0) : OT S (sp_showP S o p).2 := by
  have h1 := OT.showR (o := o) (p := p) (S.1 10 o p) 0 0 S ho
  have h0 := (ST.showR (o := o) (p := p) (S.1 10 o p) 0 0 S).1 0 0 0 (by omega)
  unfold sp_showP
  cases hR : sp_showR o p (S.1 10 o p) 0 0 S with
  | mk a T =>
    rw [hR] at h1 h0
    cases a with
    | none => exact h1
    | some w =>
      simp only
      split
      · exact h1.trans (fun a b c hb ha => by rw [sN_2]; exact sr_V (by omega) (by omega)) h0
      · exact h1.trans OT.rec h0
theorem OT.showO {o : Nat} : ∀ (c p w : Nat) (S : sp), JN S → o < S.1 0 0 0 → p + c = S.1 5 o 0 → (∀ q, q < p → S.1 11 o q ≠ 1 ∨ S.2 0 0 0 < S.2 13 o q) → OT S (sp_showO o c p w S).2 := by
  intro c
  induction c with
  | zero => intro p w S _ _ _ _ a b c _ _; rfl
  | succ c ih =>
    intro p w S h ho hp hprev
    have ht : OT S (sp_try S o) := fun a b c hb ha => by
      have : ¬ b = o := by omega
      simp [sp_try, sV_2, this]
    unfold sp_showO
    split
    · rename_i hc
      split
      · intro a b c hb ha
        have : ¬ b = o := by omega
        simp [sp_try, sV_2, this]
      · have hj := h.try o
        have e13 : ∀ b c, (sp_try S o).2 13 b c = S.2 13 b c := fun b c => by simp [sp_try, sV_2]
        have em : (sp_try S o).2 0 0 0 = S.2 0 0 0 := by simp [sp_try, sV_2]
        have hpv : ∀ q, q < p → (sp_try S o).1 11 o q ≠ 1 := hprev_le h ho (by omega) hc.1 hc.2 hprev
        obtain ⟨j1, j2, j3, j4, j5⟩ := hj.showP (o := o) (p := p) ho (show p < S.1 5 o 0 by omega) hc.1 (by rw [e13, em]; exact hc.2) hpv
        have ot := OT.showP (S := sp_try S o) (o := o) (p := p) ho
        cases hP : sp_showP (sp_try S o) o p with
        | mk a T =>
          rw [hP] at j1 j2 j3 j4 j5 ot
          cases a with
          | none => exact ht.trans ot rfl
          | some x =>
            simp only at j1 j2 j3 j4 j5 ot ⊢
            have i1 := ih (p + 1) (w + x) T j1 (by rw [j2.1 0 0 0 (by omega)]; exact ho) (by rw [j2.1 5 o 0 (by omega)]; show p + 1 + c = S.1 5 o 0; omega) (fun q hq => by
              left
              by_cases hqp : q = p
              · subst hqp
                rw [(j3 (by simp)).1]
                decide
              · rw [j4 o q (by omega)]
                exact hpv q (by omega))
            exact (ht.trans ot rfl).trans i1 (j2.1 0 0 0 (by omega))
    · rename_i hc
      refine ih (p + 1) w S h ho (by omega) (fun q hq => ?_)
      by_cases hqp : q = p
      · subst hqp
        by_cases h1 : S.1 11 o q = 1
        · right
          exact Int32.not_le.mp (fun e => hc ⟨h1, e⟩)
        · exact Or.inl h1
      · exact hprev q (by omega)
theorem OT.showA : ∀ (c o w : Nat) (S : sp), JN S → o + c = S.1 0 0 0 → OT S (sp_showA c o w S).2 := by
  intro c
  induction c with
  | zero => intro o w S _ _ a b c _ _; rfl
  | succ c ih =>
    intro o w S h ho
    unfold sp_showA
    obtain ⟨j1, j2⟩ := JN.showO (o := o) (S.1 5 o 0) 0 w S h (by omega) (Nat.zero_add _) (fun q hq => by omega)
    have ot := OT.showO (o := o) (S.1 5 o 0) 0 w S h (by omega) (Nat.zero_add _) (fun q hq => by omega)
    cases hO : sp_showO o (S.1 5 o 0) 0 w S with
    | mk a T =>
      rw [hO] at j1 j2 ot
      cases a with
      | none => exact ot
      | some x =>
        simp only at j1 j2 ot ⊢
        exact ot.trans (ih (o + 1) x T j1 (by rw [j2.1 0 0 0 (by omega)]; omega)) (j2.1 0 0 0 (by omega))
theorem OT.goes {o : Nat} {m : Int32} : ∀ (c p w : Nat) (S : sp), OT S (sp_goes o m c p w S).2 := by
  intro c
  induction c with
  | zero => intro p w S a b c _ _; rfl
  | succ c ih =>
    intro p w S
    unfold sp_goes
    split
    · split
      · refine OT.trans (T := sN (sp_rec S 4 (nI o) (nI p) (-6) (-6)).2 11 o p 3) (fun a b c hb ha => by rw [sN_2]; exact sr_V (by omega) (by omega)) (ih _ _ _) ?_
        rw [sN_1, if_neg (by omega)]
        exact sr_N (by decide) (by decide)
      · exact OT.rec
    · exact ih _ _ _
theorem OT.giveL {m : Int32} : ∀ (c o w : Nat) (S : sp), JN S → o + c = S.1 0 0 0 → S.2 0 0 0 < m → OT S (sp_giveL m c o w S).2 := by
  intro c
  induction c with
  | zero => intro o w S _ _ _ a b c _ _; rfl
  | succ c ih =>
    intro o w S h ho hm
    unfold sp_giveL
    obtain ⟨j1, j2, j3⟩ := JN.goes (o := o) (m := m) (S.1 5 o 0) 0 0 S h (by omega) (Nat.zero_add _) hm
    have ot := OT.goes (o := o) (m := m) (S.1 5 o 0) 0 0 S
    cases hO : sp_goes o m (S.1 5 o 0) 0 0 S with
    | mk a T =>
      rw [hO] at j1 j2 j3 ot
      cases a with
      | none => exact ot
      | some x =>
        simp only at j1 j2 ot ⊢
        have s2 := j2.trans (ST.op0 T o)
        refine OT.trans (T := sN T 4 o 0 0) (fun a b c hb ha => ot a b c hb ha) (ih (o + 1) _ _ (j1.op0 o) (by rw [s2.1 0 0 0 (by omega)]; omega) (by rw [s2.2.2.2.2.2.2.2.2.2.2.2.1 0 0 (by decide) (by decide) (by decide)]; exact hm)) (s2.1 0 0 0 (by omega))
theorem OT.openG {m : Int32} : ∀ (c o : Nat) (S : sp), JN S → o + c = S.1 0 0 0 → S.2 0 0 0 < m → OT S (sp_openG c o m S) := by
  intro c
  induction c with
  | zero => intro o S _ _ _ a b c _ _; rfl
  | succ c ih =>
    intro o S h ho hm
    unfold sp_openG
    obtain ⟨j1, j2, j3⟩ := JN.goes (o := o) (m := m) (S.1 5 o 0) 0 0 S h (by omega) (Nat.zero_add _) hm
    exact (OT.goes (o := o) (m := m) (S.1 5 o 0) 0 0 S).trans (ih (o + 1) _ j1 (by rw [j2.1 0 0 0 (by omega)]; omega) (by rw [j2.2.2.2.2.2.2.2.2.2.2.2.1 0 0 (by decide) (by decide) (by decide)]; exact hm)) (j2.1 0 0 0 (by omega))
theorem PH_le {S T : sp} (h1 : PD T ≤ PD S) (h2 : ∀ b, T.1 4 b 0 ≤ S.1 4 b 0) : PH T ≤ PH S := by
  unfold PH
  have := h2 0
  have := h2 1
  have := h2 2
  omega
/-- showing and giving up -/
theorem KJ.st {S T : sp} {c : Nat} (h : KJ S c) (st : ST S T) (hj : JN T) (ot : OT S T) : KJ T c := by
  obtain ⟨a1, a2, a3, a4, a5, a6, a7, a8, a9, a10, a11⟩ := h
  have N0 : T.1 0 0 0 = S.1 0 0 0 := st.1 0 0 0 (by omega)
  have N2 : T.1 2 0 0 = S.1 2 0 0 := st.1 2 0 0 (by omega)
  have N3 : T.1 3 0 0 = S.1 3 0 0 := st.1 3 0 0 (by omega)
  obtain ⟨b1, b2, b3, b4, b5, b6, b7, b8, b9, b10, b11, b12, b13⟩ := st
  refine ⟨hj, Nat.le_trans (PH_le b6 b2) a2, by rw [N2]; exact a3, by rw [b12 5 0 (by decide) (by decide) (by decide)]; exact a4, fun o => Nat.le_trans (b2 o) (a5 o), fun o j ho hj => by rw [b8 2 o j (by omega)]; exact a6 o j ho (Nat.lt_of_lt_of_le hj (b2 o)), fun o ho => ?_, fun i hi => ?_, ?_, fun o ho => ?_, ⟨by rw [N3]; exact a11.1, fun r hr => ?_⟩⟩
  · rw [N0] at ho
    obtain ⟨x1, x2, x3, x4⟩ := a7 o ho
    refine ⟨by have := b2 o; omega, by rw [ot 1 o 1 ho (by omega)]; exact x2, by rw [ot 1 o 2 ho (by omega)]; exact x3, fun k hk => ?_⟩
    rw [ot 10 o k ho (by omega), ot 11 o k ho (by omega), ot 12 o k ho (by omega)]
    exact x4 k hk
  · rw [N2] at hi ⊢
    rw [b8 5 i 0 (by omega), b8 5 (i + 1) 0 (by omega)]
    exact a8 i hi
  · rcases b13 with e | e
    · rw [e]; exact a9
    · exact Or.inr e
  · rw [N0] at ho
    have f0 := a1.1.2.2.2.2.2.2.1 o ho
    exact ⟨by rw [b10 o]; exact (a10 o ho).1, Int32.le_trans (b11 o f0).2 (a10 o ho).2⟩
  · rw [N3] at hr
    obtain ⟨x1, x2, x3⟩ := a11.2 r hr
    rw [b1 7 r 0 (by omega), b1 8 r 0 (by omega), N0]
    exact ⟨x1, by rw [b10]; exact x2, Nat.le_trans x3 (b3 _)⟩
theorem KL.st {S T : sp} (h : KL S) (st : ST S T) : KL T := by
  obtain ⟨b1, b2, b3, b4, b5, b6, b7, b8, b9, b10, b11, b12, b13⟩ := st
  intro hd o p hp h1
  have hd0 : S.2 0 2 0 = 0 := by
    rcases b13 with e | e
    · rw [← e]; exact hd
    · rw [e] at hd; exact absurd hd (by decide)
  rw [b1 5 o 0 (by omega)] at hp
  have h1S : S.1 11 o p = 1 := Classical.byContradiction fun q => q ((b4 o p q).symm.trans h1)
  rw [b8 13 o p (by omega), b12 0 0 (by decide) (by decide) (by decide), b1 2 0 0 (by omega)]
  rcases h hd0 o p hp h1S with e | ⟨i, i1, i2⟩
  · exact Or.inl e
  · exact Or.inr ⟨i, i1, by rw [b8 5 i 0 (by omega)]; exact i2⟩
theorem KI.st {S T : sp} {c : Nat} (h : KI S c) (st : ST S T) (hj : JN T) (ot : OT S T) : KI T c := ⟨h.1.st st hj ot, h.2.st st⟩
theorem KI.shown {S : sp} {c : Nat} (h : KI S c) : KI (sp_shown S).2 c := by
  obtain ⟨j1, j2⟩ := h.1.1.shown
  refine h.st j2 j1 ?_
  unfold sp_shown
  rw [sp_ans_2]
  exact OT.showA _ _ _ S h.1.1 (Nat.zero_add _)
