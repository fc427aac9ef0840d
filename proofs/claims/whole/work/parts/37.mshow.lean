/-! The model: a part is shown. -/
theorem sp_come_keep {S : sp} {o p pl r : Nat} : (∀ a b c, a ≠ 6 → a ≠ 14 → a ≠ 15 → (sp_come S o p pl r).2.1 a b c = S.1 a b c) ∧ (∀ b, (sp_come S o p pl r).2.1 6 b 0 ≤ S.1 6 b 0 + 1 ∧ S.1 6 b 0 ≤ (sp_come S o p pl r).2.1 6 b 0) ∧ (∀ a b c, a < 6 ∨ a = 13 → (sp_come S o p pl r).2.2 a b c = S.2 a b c) ∧ (sp_come S o p pl r).1 ≤ 1 ∧ (∀ b, b ≠ o → (sp_come S o p pl r).2.1 6 b 0 = S.1 6 b 0) := by
  have hgN : ∀ (A B : sp) (a b c : Nat), a ≠ 14 → a ≠ 15 → (sp_gh A B o p pl).1 a b c = B.1 a b c := by
    intro A B a b c h14 h15
    unfold sp_gh
    split <;> simp [sN_1, h14, h15]
  have hgV : ∀ (A B : sp) (a b c : Nat), (sp_gh A B o p pl).2 a b c = B.2 a b c := by
    intro A B a b c
    unfold sp_gh
    split <;> rfl
  unfold sp_come
  split
  · refine ⟨fun a b c h6 h14 h15 => ?_, fun b => ?_, fun a b c ha => ?_, ?_, fun b hb => ?_⟩
    · show (sp_gh S (sp_line S o p pl r).2 o p pl).1 a b c = _
      rw [hgN _ _ _ _ _ h14 h15]
      unfold sp_line
      split
      · rfl
      · simp [sN_1, sV_1, h6]
    · show (sp_gh S (sp_line S o p pl r).2 o p pl).1 6 b 0 ≤ _ ∧ _ ≤ (sp_gh S (sp_line S o p pl r).2 o p pl).1 6 b 0
      rw [hgN _ _ _ _ _ (by decide) (by decide)]
      unfold sp_line
      split
      · simp only; omega
      · simp only [sN_1, sV_1]
        split
        · rename_i q; obtain ⟨-, rfl, -⟩ := q; omega
        · omega
    · show (sp_gh S (sp_line S o p pl r).2 o p pl).2 a b c = _
      rw [hgV]
      have q6 : ¬ a = 6 := by omega
      have q7 : ¬ a = 7 := by omega
      have q8 : ¬ a = 8 := by omega
      have q9 : ¬ a = 9 := by omega
      unfold sp_line
      split
      · rfl
      · simp [sN_2, sV_2, q6, q7, q8, q9]
    · show (sp_line S o p pl r).1 ≤ 1
      unfold sp_line
      split <;> simp
    · show (sp_gh S (sp_line S o p pl r).2 o p pl).1 6 b 0 = _
      rw [hgN _ _ _ _ _ (by decide) (by decide)]
      unfold sp_line
      split
      · rfl
      · simp [sN_1, sV_1, hb]
  · refine ⟨fun a b c h6 h14 h15 => ?_, fun b => ?_, fun a b c ha => ?_, ?_, fun b hb => ?_⟩
    · show (sp_gh S (sp_last S o p pl r).2 o p pl).1 a b c = _
      rw [hgN _ _ _ _ _ h14 h15]
      unfold sp_last
      split
      · rfl
      · simp [sV_1]
    · show (sp_gh S (sp_last S o p pl r).2 o p pl).1 6 b 0 ≤ _ ∧ _ ≤ (sp_gh S (sp_last S o p pl r).2 o p pl).1 6 b 0
      rw [hgN _ _ _ _ _ (by decide) (by decide)]
      unfold sp_last
      split
      · simp only; omega
      · simp only [sV_1]; omega
    · show (sp_gh S (sp_last S o p pl r).2 o p pl).2 a b c = _
      rw [hgV]
      have q10 : ¬ a = 10 := by omega
      have q11 : ¬ a = 11 := by omega
      have q12 : ¬ a = 12 := by omega
      unfold sp_last
      split
      · rfl
      · simp [sV_2, q10, q11, q12]
    · show (sp_last S o p pl r).1 ≤ 1
      unfold sp_last
      split <;> simp
    · show (sp_gh S (sp_last S o p pl r).2 o p pl).1 6 b 0 = _
      rw [hgN _ _ _ _ _ (by decide) (by decide)]
      unfold sp_last
      split
      · rfl
      · simp [sV_1]
section MSh
variable {M n s : Nat} {mem : Nat → am_C} {pd : Int32}
theorem MS.gh {h : am_H} {A B : sp} {o p pl : Nat} (hs : MS M n s mem pd h B) : MS M n s mem pd h (sp_gh A B o p pl) := by
  unfold sp_gh
  apply MS.gN _ (by decide)
  split
  · exact MS.gN hs (by decide)
  · exact hs
/-- rows of a part come out: over the records -/
theorem k_showR (P : Nat × Nat) {o p f0 r0 N : Nat} (ho : o < 3) (hp : p < 1000) (hN : N < 4000) (hfr : f0 + r0 ≤ N) (hr20 : r0 ≤ 20) (rc : Nat → Nat → Int32)
    (hrow : ∀ i, i < N → ((rc i 0 = 0 ∧ rc i 1 = nI o ∧ rc i 2 = nI p) ↔ (f0 ≤ i ∧ i < f0 + r0))) (hkey : ∀ i, i < N → rc i 0 = 0 → 0 ≤ rc i 3 ∧ rc i 3 < 10) :
    ∀ (k r pl w : Nat) (S : sp) (h : am_H), r + k = N → (pl = if r ≤ f0 then 0 else if r ≤ f0 + r0 then r - f0 else r0) → MS M n s mem pd h S → sp_LP S → S.1 1 0 0 = N → (∀ i c, i < N → S.2 4 i c = rc i c) → S.1 9 o p = f0 → (∀ a, a < 3 → S.1 6 a 0 + (r0 - pl) < 2000) →
    ∃ h', MS M n s mem pd h' (sp_showR o p (r0 - pl) pl w S).2 ∧
      ((sp_showR o p (r0 - pl) pl w S).1 = none → am_E P 91 14 [some (.ref M), some (.int (nI o)), some (.int (nI p)), some (.int (nI w)), some (.int (nI pl)), some (.int (nI N)), some (.int (nI r))] [] h = some (some (.int (-5)), h')) ∧
      (∀ w', (sp_showR o p (r0 - pl) pl w S).1 = some w' → am_E P 91 14 [some (.ref M), some (.int (nI o)), some (.int (nI p)), some (.int (nI w)), some (.int (nI pl)), some (.int (nI N)), some (.int (nI r))] [] h = am_E P 91 107 [some (.ref M), some (.int (nI o)), some (.int (nI p)), some (.int (nI w')), some (.int (nI r0)), some (.int (nI N)), some (.int (nI N))] [] h') := by
  intro k
  induction k with
  | zero =>
    intro r pl w S h hk hpl hs hl hN1 hrc h9 hbd
    obtain rfl : r = N := by omega
    have hpl2 : pl = r0 := by
      rw [hpl]
      split
      · omega
      · split <;> omega
    subst hpl2
    rw [Nat.sub_self]
    refine ⟨h, hs, fun q => (by cases q), fun w' q => ?_⟩
    cases q
    have c : nI r ≤ nI r := Int32.le_refl _
    rw [hd91_14]
    simp only [r91, if_pos c]
  | succ k ih =>
    intro r pl w S h hk hpl hs hl hN1 hrc h9 hbd
    obtain ⟨f, F, hv, hf, hF, -⟩ := id hs
    have hrN : r < N := by omega
    have c : ¬ nI N ≤ nI r := nI_ge (by omega) (by omega)
    obtain ⟨y0, y1, y2, y3, y4⟩ := hF.2.2.1 r (by omega)
    rw [hrc r 0 hrN] at y0
    rw [hrc r 1 hrN] at y1
    rw [hrc r 2 hrN] at y2
    have b2 : r < 4000 := by omega
    by_cases hin : f0 ≤ r ∧ r < f0 + r0
    · obtain ⟨z0, z1, z2⟩ := (hrow r hrN).mpr hin
      have hpl1 : pl = r - f0 := by
        rw [hpl]
        split
        · omega
        · split <;> omega
      have hcnt : r0 - pl = (r0 - (pl + 1)) + 1 := by omega
      obtain ⟨h1, e1, s1⟩ := k_act P hs hl
      have start : am_E P 91 14 [some (.ref M), some (.int (nI o)), some (.int (nI p)), some (.int (nI w)), some (.int (nI pl)), some (.int (nI N)), some (.int (nI r))] [] h = am_E P 91 57 [some (.ref M), some (.int (nI o)), some (.int (nI p)), some (.int (nI w)), some (.int (nI pl)), some (.int (nI N)), some (.int (nI r))] [.int (if (sp_act S).1 = true then 1 else 0)] h1 := by
        rw [hd91_14]
        simp only [r91, if_neg c, hv.g, mo_g, Option.bind_some, hv.ld 8 (by decide) (by decide) (q := r) b2, hv.ld 9 (by decide) (by decide) (q := r) b2, hv.ld 10 (by decide) (by decide) (q := r) b2, y0, y1, y2, z0, z1, z2, if_true, hs.c, e1, Option.toList_some, List.cons_append, List.nil_append]
      rw [start, hcnt]
      cases hb : (sp_act S).1 with
      | false =>
        have e : sp_showR o p (r0 - (pl + 1) + 1) pl w S = (none, (sp_act S).2) := by
          unfold sp_showR
          rw [if_neg (by rw [hb]; decide)]
        rw [e]
        refine ⟨h1, s1, fun _ => ?_, fun w' q => by cases q⟩
        simp [r91]
      | true =>
        have e : sp_showR o p (r0 - (pl + 1) + 1) pl w S = sp_showR o p (r0 - (pl + 1)) (pl + 1) (w + (sp_come (sp_act S).2 o p pl (S.1 9 o p + pl)).1) (sp_come (sp_act S).2 o p pl (S.1 9 o p + pl)).2 := by
          conv => lhs; unfold sp_showR
          rw [if_pos hb]
        rw [e]
        have hix : S.1 9 o p + pl = r := by omega
        rw [hix]
        have hact6 : ∀ a, (sp_act S).2.1 6 a 0 = S.1 6 a 0 := fun a => sa_N (by decide)
        have hact1 : (sp_act S).2.1 1 0 0 = N := by rw [sa_N (by decide)]; exact hN1
        obtain ⟨f2, F2, v2, hf2, hF2, -⟩ := id s1
        have g1 := (hF2.1 o ho).1
        obtain ⟨kk1, kk2, kk3, kk4, kk5⟩ := sp_come_keep (S := (sp_act S).2) (o := o) (p := p) (pl := pl) (r := r)
        have hcome : ∃ h2, am_E P 91 57 [some (.ref M), some (.int (nI o)), some (.int (nI p)), some (.int (nI w)), some (.int (nI pl)), some (.int (nI N)), some (.int (nI r))] [.int (if true = true then 1 else 0)] h1 = am_E P 91 14 [some (.ref M), some (.int (nI o)), some (.int (nI p)), some (.int (nI (w + (sp_come (sp_act S).2 o p pl r).1))), some (.int (nI (pl + 1))), some (.int (nI N)), some (.int (nI (r + 1)))] [] h2 ∧ MS M n s mem pd h2 (sp_come (sp_act S).2 o p pl r).2 := by
          have zz : ¬ (1 : Int32) = 0 := by decide
          by_cases hsort : (sp_act S).2.2 1 o 0 = 0
          · obtain ⟨h2, e2, s2⟩ := k_line P s1 (o := o) (p := p) (pl := pl) (r := r) ho (fun a ha => by rw [hact6 a]; have := hbd a ha; omega) (by rw [hact1]; exact hrN) (by rw [hact1]; exact hN)
            have ec : sp_come (sp_act S).2 o p pl r = ((sp_line (sp_act S).2 o p pl r).1, sp_gh (sp_act S).2 (sp_line (sp_act S).2 o p pl r).2 o p pl) := by
              unfold sp_come; rw [if_pos hsort]
            rw [ec]
            refine ⟨h2, ?_, s2.gh⟩
            simp only [r91, if_true, if_neg zz, v2.g, mo_g, Option.bind_some, v2.ld 1 (by decide) (by decide) (q := o) (show o < 3 from ho), g1, hsort, v2.c, e2, Option.toList_some, List.cons_append, List.nil_append, nI_add, nI_1]
          · obtain ⟨h2, e2, s2⟩ := k_last P s1 (o := o) (p := p) (pl := pl) (r := r) ho (by rw [hact1]; exact hrN) (by rw [hact1]; exact hN) (by rw [sa_V (by decide), hrc r 3 hrN]; exact hkey r hrN z0)
            have ec : sp_come (sp_act S).2 o p pl r = ((sp_last (sp_act S).2 o p pl r).1, sp_gh (sp_act S).2 (sp_last (sp_act S).2 o p pl r).2 o p pl) := by
              unfold sp_come; rw [if_neg hsort]
            rw [ec]
            refine ⟨h2, ?_, s2.gh⟩
            simp only [r91, if_true, if_neg zz, v2.g, mo_g, Option.bind_some, v2.ld 1 (by decide) (by decide) (q := o) (show o < 3 from ho), g1, if_neg hsort, v2.c, e2, Option.toList_some, List.cons_append, List.nil_append, nI_add, nI_1]
        obtain ⟨h2, e2, s2⟩ := hcome
        rw [e2]
        refine ih (r + 1) (pl + 1) _ _ h2 (by omega) ?_ s2 ?_ ?_ (fun i c hi => ?_) ?_ (fun a ha => ?_)
        · split
          · omega
          · split <;> omega
        · have := sa_LP hl
          unfold sp_LP at this ⊢
          rw [kk3 0 3 0 (by omega)]
          exact this
        · rw [kk1 1 0 0 (by decide) (by decide) (by decide)]; exact hact1
        · rw [kk3 4 i c (by omega), sa_V (by decide)]; exact hrc i c hi
        · rw [kk1 9 o p (by decide) (by decide) (by decide), sa_N (by decide)]; exact h9
        · have := (kk2 a).1
          have := hbd a ha
          have := hact6 a
          omega
    · have hnm : ¬ (rc r 0 = 0 ∧ rc r 1 = nI o ∧ rc r 2 = nI p) := fun q => hin ((hrow r hrN).mp q)
      have start : am_E P 91 14 [some (.ref M), some (.int (nI o)), some (.int (nI p)), some (.int (nI w)), some (.int (nI pl)), some (.int (nI N)), some (.int (nI r))] [] h = am_E P 91 14 [some (.ref M), some (.int (nI o)), some (.int (nI p)), some (.int (nI w)), some (.int (nI pl)), some (.int (nI N)), some (.int (nI (r + 1)))] [] h := by
        conv => lhs; rw [hd91_14]
        simp only [r91, if_neg c, hv.g, mo_g, Option.bind_some, hv.ld 8 (by decide) (by decide) (q := r) b2, hv.ld 9 (by decide) (by decide) (q := r) b2, hv.ld 10 (by decide) (by decide) (q := r) b2, y0, y1, y2, nI_1]
        by_cases q0 : rc r 0 = 0
        · by_cases q1 : rc r 1 = nI o
          · by_cases q2 : rc r 2 = nI p
            · exact absurd ⟨q0, q1, q2⟩ hnm
            · simp only [q0, q1, q2, if_true, if_false]
          · simp only [q0, q1, if_true, if_false]
        · simp only [q0, if_false]
      rw [start]
      refine ih (r + 1) pl w S h (by omega) ?_ hs hl hN1 hrc h9 hbd
      rw [hpl]
      split
      · split
        · rfl
        · split <;> omega
      · split
        · rw [if_neg (by omega)]
          split <;> omega
        · rw [if_neg (by omega), if_neg (by omega)]
theorem k_showP (P : Nat × Nat) {o p : Nat} {S : sp} {h : am_H} (hs : MS M n s mem pd h S) (hc : CO S) (hl : sp_LP S) (ho : o < S.1 0 0 0) (h3 : S.1 0 0 0 ≤ 3) (hp : p < S.1 5 o 0) (hr20 : S.1 10 o p ≤ 20) (hn : S.1 1 0 0 < 3999) (hbd : ∀ a, a < 3 → S.1 6 a 0 + 20 < 2000) :
    ∃ h', am_E P 91 0 [some (.ref M), some (.int (nI o)), some (.int (nI p)), none, none, none, none] [] h = some (some (.int (sp_ans (sp_showP S o p)).1), h') ∧ MS M n s mem (if (sp_showP S o p).1 = none then pd else pd + 1) h' (sp_showP S o p).2 := by
  have ho3 : o < 3 := by omega
  obtain ⟨b1, b2, b3, b4, b5, b6⟩ := hc.1 o p ho3 hp
  have hp9 := hc.2.2.1 o ho3
  obtain ⟨f, F, hv, ⟨f1, f2, -⟩, hF, -⟩ := id hs
  obtain ⟨h1, s1, t1, t2⟩ := k_showR (M := M) (n := n) (s := s) (mem := mem) (pd := pd) P (o := o) (p := p) (f0 := S.1 9 o p) (r0 := S.1 10 o p) (N := S.1 1 0 0) ho3 (by omega) (by omega) b5 hr20 (S.2 4) b4 hc.2.2.2.2.1 (S.1 1 0 0) 0 0 0 S h (Nat.zero_add _) (by simp) hs hl rfl (fun _ _ _ => rfl) rfl (fun a ha => by have := hbd a ha; omega)
  rw [Nat.sub_zero] at s1 t1 t2
  have keepR : ∀ (c pl w : Nat) (T : sp), sp_LP T → (sp_LP (sp_showR o p c pl w T).2) ∧ (sp_showR o p c pl w T).2.1 1 0 0 = T.1 1 0 0 := by
    intro c
    induction c with
    | zero => intro pl w T hT; exact ⟨hT, rfl⟩
    | succ c ih =>
      intro pl w T hT
      unfold sp_showR
      split
      · obtain ⟨kk1, kk2, kk3, kk4, kk5⟩ := sp_come_keep (S := (sp_act T).2) (o := o) (p := p) (pl := pl) (r := T.1 9 o p + pl)
        obtain ⟨i1, i2⟩ := ih (pl + 1) (w + (sp_come (sp_act T).2 o p pl (T.1 9 o p + pl)).1) (sp_come (sp_act T).2 o p pl (T.1 9 o p + pl)).2 (by
          have := sa_LP hT
          unfold sp_LP at this ⊢
          rw [kk3 0 3 0 (by omega)]
          exact this)
        exact ⟨i1, by rw [i2, kk1 1 0 0 (by decide) (by decide) (by decide)]; exact sa_N (by decide)⟩
      · exact ⟨sa_LP hT, sa_N (by decide)⟩
  obtain ⟨q1, q2⟩ := keepR (S.1 10 o p) 0 0 S hl
  have start : am_E P 91 0 [some (.ref M), some (.int (nI o)), some (.int (nI p)), none, none, none, none] [] h = am_E P 91 14 [some (.ref M), some (.int (nI o)), some (.int (nI p)), some (.int (nI 0)), some (.int (nI 0)), some (.int (nI (S.1 1 0 0))), some (.int (nI 0))] [] h := by
    simp only [r91, hv.g, mo_g, f2, Option.bind_some]
    rfl
  rw [start]
  cases hR : sp_showR o p (S.1 10 o p) 0 0 S with
  | mk a T =>
    rw [hR] at s1 t1 t2 q1 q2
    cases a with
    | none =>
      have e : sp_showP S o p = (none, T) := by unfold sp_showP; rw [hR]
      rw [e]
      exact ⟨h1, t1 rfl, s1⟩
    | some w =>
      have s1 : MS M n s mem pd h1 T := s1
      have q2 : T.1 1 0 0 = S.1 1 0 0 := q2
      obtain ⟨h2, e2, s2⟩ := k_record P s1 q1 (by omega) 3 (nI o) (nI p) (-6) (-6)
      rw [t2 w rfl]
      cases hb : (sp_rec T 3 (nI o) (nI p) (-6) (-6)).1 with
      | false =>
        have e : sp_showP S o p = (none, (sp_rec T 3 (nI o) (nI p) (-6) (-6)).2) := by unfold sp_showP; rw [hR]; simp only; rw [if_neg (by rw [hb]; decide)]
        rw [e]
        refine ⟨h2, ?_, s2⟩
        rw [hb] at e2
        simp only [r91, s1.c, if_true, e2, Option.bind_some, Option.toList_some, List.cons_append, List.nil_append]
        simp [r91, sp_ans]
      | true =>
        have e : sp_showP S o p = (some w, sN (sp_rec T 3 (nI o) (nI p) (-6) (-6)).2 11 o p 2) := by unfold sp_showP; rw [hR]; simp only; rw [if_pos hb]
        rw [e]
        obtain ⟨f2, F2, v2, hf2, hF2, hpd2⟩ := s2
        have s3 : MS M n s mem (pd + 1) (ah_put h2 M (ac_O 9 (mo M (va_up f2 33 (f2 33 + 1))))) (sN (sp_rec T 3 (nI o) (nI p) (-6) (-6)).2 11 o p 2) := by
          refine MS.gN ⟨_, F2, v2.p 33 (f2 33 + 1), ?_, hF2, by rw [hpd2]; simp [va_up]⟩ (by decide)
          obtain ⟨w1, w2, w3, w4, w5, w6, w7, w8, w9, w10⟩ := hf2
          simp [m_f, va_up, w1, w2, w3, w4, w5, w6, w7, w8, w9, w10]
        refine ⟨_, ?_, by simpa using s3⟩
        rw [hb] at e2
        simp only [r91, s1.c, if_true, e2, Option.bind_some, Option.toList_some, List.cons_append, List.nil_append]
        have zz : ¬ (1 : Int32) = 0 := by decide
        simp only [r91, if_neg zz, v2.g, mo_g, Option.bind_some, v2.w 33 (by decide), mo_s]
        simp [sp_ans]
end MSh
