/-! The model: the whole barrier. -/
theorem sp_row_F {S : sp} {o p k : Nat} (h : (sp_row S o p k).1 = false) : (sp_rec S 0 (nI o) (nI p) (S.2 2 o k) (S.2 3 o k)).1 = false ∧ (sp_row S o p k).2 = (sp_rec S 0 (nI o) (nI p) (S.2 2 o k) (S.2 3 o k)).2 := by
  unfold sp_row at h ⊢
  split
  · rename_i q; rw [if_pos q] at h; cases h
  · rename_i q; exact ⟨by simpa using q, rfl⟩
theorem sp_row_T {S : sp} {o p k : Nat} (h : (sp_row S o p k).1 = true) : (sp_rec S 0 (nI o) (nI p) (S.2 2 o k) (S.2 3 o k)).1 = true ∧ (sp_row S o p k).2 = sp_pu (sp_rec S 0 (nI o) (nI p) (S.2 2 o k) (S.2 3 o k)).2 o p k := by
  unfold sp_row at h ⊢
  split
  · rename_i q; exact ⟨q, rfl⟩
  · rename_i q; rw [if_neg q] at h; cases h
/-- what rows leave alone, whatever comes of them; nr grows by at most as many -/
theorem sp_row_keep {S : sp} {o p k : Nat} : (∀ a b c, a = 0 ∨ a = 2 ∨ a = 3 ∨ a = 6 ∨ a = 7 ∨ a = 8 → (sp_row S o p k).2.1 a b c = S.1 a b c) ∧ (∀ b c, b ≠ o → (sp_row S o p k).2.1 5 b c = S.1 5 b c) ∧ ((sp_row S o p k).1 = true → ∀ b c, (sp_row S o p k).2.1 4 b c = S.1 4 b c) ∧ (∀ a b c, a ≠ 0 → a ≠ 4 → a ≠ 13 → (sp_row S o p k).2.2 a b c = S.2 a b c) ∧ (∀ b c, b ≠ 2 → b ≠ 3 → b ≠ 4 → (sp_row S o p k).2.2 0 b c = S.2 0 b c) ∧ (sp_row S o p k).2.1 1 0 0 ≤ S.1 1 0 0 + 1 ∧ (sp_LP S → sp_LP (sp_row S o p k).2) := by
  cases h : (sp_row S o p k).1 with
  | false =>
    obtain ⟨e1, e2⟩ := sp_row_F h
    rw [e2]
    refine ⟨fun a b c ha => sr_N (by omega) (by omega), fun b c _ => sr_N (by decide) (by decide), fun q => (by cases q), fun a b c h0 h4 _ => sr_V h0 h4, fun b c h2 h3 h4 => sr_V0 h2 h3 h4, sr_nr.1, sr_LP⟩
  | true =>
    obtain ⟨e1, e2⟩ := sp_row_T h
    rw [e2]
    refine ⟨fun a b c ha => ?_, fun b c hb => ?_, fun _ b c => ?_, fun a b c h0 h4 h13 => ?_, fun b c h2 h3 h4 => ?_, ?_, fun hl => sp_pu_LP (sr_LP hl)⟩
    · rw [sp_pu_N (by omega)]; exact sr_N (by omega) (by omega)
    · have q9 : ¬ (5 : Nat) = 9 := by decide
      unfold sp_pu
      split <;> simp [sN_1, sV_1, hb, sr_N]
    · rw [sp_pu_N (by omega)]; exact sr_N4 (by decide) e1
    · rw [sp_pu_V h13]; exact sr_V h0 h4
    · rw [sp_pu_V (by decide)]; exact sr_V0 h2 h3 h4
    · rw [sp_pu_N (by omega)]; exact sr_nr.1
theorem sp_rows_keep (o p : Nat) : ∀ (cnt k : Nat) (S : sp), (∀ a b c, a = 0 ∨ a = 2 ∨ a = 3 ∨ a = 6 ∨ a = 7 ∨ a = 8 → (sp_rows o p cnt k S).2.1 a b c = S.1 a b c) ∧ (∀ b c, b ≠ o → (sp_rows o p cnt k S).2.1 5 b c = S.1 5 b c) ∧ ((sp_rows o p cnt k S).1 = true → ∀ b c, (sp_rows o p cnt k S).2.1 4 b c = S.1 4 b c) ∧ (∀ a b c, a ≠ 0 → a ≠ 4 → a ≠ 13 → (sp_rows o p cnt k S).2.2 a b c = S.2 a b c) ∧ (∀ b c, b ≠ 2 → b ≠ 3 → b ≠ 4 → (sp_rows o p cnt k S).2.2 0 b c = S.2 0 b c) ∧ (sp_rows o p cnt k S).2.1 1 0 0 ≤ S.1 1 0 0 + cnt ∧ (sp_LP S → sp_LP (sp_rows o p cnt k S).2) := by
  intro cnt
  induction cnt with
  | zero => intro k S; exact ⟨fun _ _ _ _ => rfl, fun _ _ _ => rfl, fun _ _ _ => rfl, fun _ _ _ _ _ _ => rfl, fun _ _ _ _ _ => rfl, Nat.le_refl _, id⟩
  | succ cnt ih =>
    intro k S
    obtain ⟨r1, r2, r3, r4, r5, r6, r7⟩ := sp_row_keep (S := S) (o := o) (p := p) (k := k)
    unfold sp_rows
    split
    · rename_i hq
      obtain ⟨i1, i2, i3, i4, i5, i6, i7⟩ := ih (k + 1) (sp_row S o p k).2
      refine ⟨fun a b c ha => (i1 a b c ha).trans (r1 a b c ha), fun b c hb => (i2 b c hb).trans (r2 b c hb), fun q b c => (i3 q b c).trans (r3 hq b c), fun a b c h0 h4 h13 => (i4 a b c h0 h4 h13).trans (r4 a b c h0 h4 h13), fun b c h2 h3 h4 => (i5 b c h2 h3 h4).trans (r5 b c h2 h3 h4), by omega, fun hl => i7 (r7 hl)⟩
    · exact ⟨r1, r2, fun q => (by cases q), r4, r5, Nat.le_trans r6 (by omega), r7⟩
theorem sp_close_keep {S : sp} {o p : Nat} {m : Int32} : (∀ a b c, a = 0 ∨ a = 2 ∨ a = 3 ∨ a = 5 ∨ a = 6 ∨ a = 7 ∨ a = 8 ∨ a = 9 ∨ a = 10 ∨ a = 14 ∨ a = 15 → (sp_close S o p m).2.1 a b c = S.1 a b c) ∧ ((sp_close S o p m).1 = true → ∀ b c, b ≠ o → (sp_close S o p m).2.1 4 b c = S.1 4 b c) ∧ (∀ a b c, a ≠ 0 → a ≠ 4 → a ≠ 13 → (sp_close S o p m).2.2 a b c = S.2 a b c) ∧ (∀ b c, b ≠ 2 → b ≠ 3 → b ≠ 4 → (sp_close S o p m).2.2 0 b c = S.2 0 b c) ∧ (sp_close S o p m).2.1 1 0 0 ≤ S.1 1 0 0 + 1 ∧ (sp_LP S → sp_LP (sp_close S o p m).2) := by
  cases h : (sp_rec S 1 (nI o) (nI p) m (-6)).1 with
  | false =>
    have e : sp_close S o p m = (false, (sp_rec S 1 (nI o) (nI p) m (-6)).2) := by unfold sp_close; rw [if_neg (by rw [h]; decide)]
    rw [e]
    refine ⟨fun a b c ha => sr_N (by omega) (by omega), fun q => (by cases q), fun a b c h0 h4 _ => sr_V h0 h4, fun b c h2 h3 h4 => sr_V0 h2 h3 h4, sr_nr.1, sr_LP⟩
  | true =>
    have e : sp_close S o p m = (true, sN (sN (sV (sp_rec S 1 (nI o) (nI p) m (-6)).2 13 o p m) 11 o p 1) 4 o 0 0) := by unfold sp_close; rw [if_pos h]
    rw [e]
    refine ⟨fun a b c ha => ?_, fun _ b c hb => ?_, fun a b c h0 h4 h13 => ?_, fun b c h2 h3 h4 => ?_, ?_, fun hl => ?_⟩
    · have q4 : ¬ a = 4 := by omega
      have q11 : ¬ a = 11 := by omega
      simp [sN_1, sV_1, q4, q11, sr_N (show a ≠ 1 by omega) q4]
    · simp [sN_1, sV_1, hb, sr_N4 (show (4 : Nat) ≠ 1 by decide) h]
    · simp [sN_2, sV_2, h13, sr_V h0 h4]
    · simp [sN_2, sV_2, sr_V0 h2 h3 h4]
    · simpa [sN_1, sV_1] using (sr_nr (S := S) (k := 1) (o := nI o) (p := nI p) (n := m) (v := -6)).1
    · have := sr_LP (k := 1) (o := nI o) (p := nI p) (n := m) (v := -6) hl
      simpa [sp_LP, sN_2, sV_2] using this
section MBar2
variable {M n s : Nat} {mem : Nat → am_C} {pd : Int32}
/-- openMany[o] = 0 -/
theorem MS.op0 {h : am_H} {S : sp} (hs : MS M n s mem pd h S) {o : Nat} (ho : o < 3) : ∃ f F, MV M n s mem h f F ∧ MS M n s mem pd (ah_put h (M + 2) (ac_I (ml 2) (upd (F 2) o 0))) (sN S 4 o 0 0) := by
  obtain ⟨f, F, hv, hf, hF, hpd⟩ := hs
  refine ⟨f, F, hv, f, _, hv.a 2 (by decide) (by decide) o 0, ?_, ?_, hpd⟩
  · obtain ⟨f1, f2, f3, f4, f5, f6, f7, f8, f9, f10⟩ := hf
    exact ⟨f1, f2, f3, f4, f5, f6, f7, f8, f9, f10⟩
  · obtain ⟨g1, g2, g3, g4, g5, g6, g7⟩ := hF
    refine ⟨fun a ha => ?_, ?_, ?_, ?_, ?_, ?_, ?_⟩
    · obtain ⟨a1, a2, a3, a4, a5, a6⟩ := g1 a ha
      by_cases hao : a = o
      · subst hao
        have z : (0 : Int32) = nI 0 := rfl
        simpa [va_up, upd, sN_1, sN_2, ← z] using ⟨a1, a3, a4, a5, a6⟩
      · simpa [va_up, upd, sN_1, sN_2, hao] using ⟨a1, a2, a3, a4, a5, a6⟩
    · simpa [va_up, sN_1, sN_2] using g2
    · simpa [va_up, sN_1, sN_2] using g3
    · simpa [va_up, sN_1, sN_2] using g4
    · simpa [va_up, sN_1, sN_2] using g5
    · simpa [va_up, sN_1, sN_2] using g6
    · simpa [va_up, sN_1, sN_2] using g7
theorem k_barL (P : Nat × Nat) (m : Int32) : ∀ (c o w : Nat) (S : sp) (h : am_H) (l4 l5 l6 : Option Value), MS M n s mem pd h S → sp_LP S → o + c = S.1 0 0 0 → S.1 0 0 0 ≤ 3 → (∀ q, q < 3 → S.1 5 q 0 + c < 900 ∧ S.1 4 q 0 ≤ 20) → S.1 1 0 0 + 22 * c < 3900 →
    ∃ h', MS M n s mem pd h' (sp_barL m c o w S).2 ∧
      ((sp_barL m c o w S).1 = none → am_E P 86 14 [some (.ref M), some (.int m), some (.int (nI w)), some (.int (nI o)), l4, l5, l6] [] h = some (some (.int (-5)), h')) ∧
      (∀ w', (sp_barL m c o w S).1 = some w' → ∃ a4 a5 a6, am_E P 86 14 [some (.ref M), some (.int m), some (.int (nI w)), some (.int (nI o)), l4, l5, l6] [] h = am_E P 86 140 [some (.ref M), some (.int m), some (.int (nI w')), some (.int (nI (S.1 0 0 0))), a4, a5, a6] [] h') := by
  intro c
  induction c with
  | zero =>
    intro o w S h l4 l5 l6 hs hl ho h3 hq hn
    obtain ⟨f, F, hv, ⟨f1, -⟩, hF, -⟩ := id hs
    refine ⟨h, hs, fun q => (by cases q), fun w' q => ⟨l4, l5, l6, ?_⟩⟩
    cases q
    obtain rfl : o = S.1 0 0 0 := by omega
    have c1 : nI (S.1 0 0 0) ≤ nI (S.1 0 0 0) := Int32.le_refl _
    rw [hd86_14]
    simp only [r86, hv.g, mo_g, f1, Option.bind_some, if_pos c1]
  | succ c ih =>
    intro o w S h l4 l5 l6 hs hl ho h3 hq hn
    obtain ⟨f, F, hv, ⟨f1, -⟩, hF, -⟩ := id hs
    have ho3 : o < 3 := by omega
    have c1 : ¬ nI (S.1 0 0 0) ≤ nI o := nI_ge (by omega) (by omega)
    obtain ⟨g1, g2, g3, -⟩ := hF.1 o ho3
    obtain ⟨hq1, hq2⟩ := hq o ho3
    by_cases hz : S.1 4 o 0 = 0
    · have e : sp_barL m (c + 1) o w S = sp_barL m c (o + 1) w S := by
        conv => lhs; unfold sp_barL
        rw [if_pos hz]
      rw [e]
      obtain ⟨h', t1, t2, t3⟩ := ih (o + 1) w S h (some (.int (nI (S.1 4 o 0)))) l5 l6 hs hl (by omega) h3 (fun q hq3 => ⟨by have := (hq q hq3).1; omega, (hq q hq3).2⟩) (by omega)
      have go : am_E P 86 14 [some (.ref M), some (.int m), some (.int (nI w)), some (.int (nI o)), l4, l5, l6] [] h = am_E P 86 14 [some (.ref M), some (.int m), some (.int (nI w)), some (.int (nI (o + 1))), some (.int (nI (S.1 4 o 0))), l5, l6] [] h := by
        have c2 : nI (S.1 4 o 0) ≤ 0 := by rw [hz]; decide
        conv => lhs; rw [hd86_14]
        simp only [r86, hv.g, mo_g, f1, Option.bind_some, if_neg c1, hv.ld 2 (by decide) (by decide) (q := o) (show o < 3 from ho3), g2, if_pos c2, nI_1]
      rw [go]
      exact ⟨h', t1, t2, t3⟩
    · have c2 : ¬ nI (S.1 4 o 0) ≤ 0 := nI_nle (by omega) (by omega)
      have go : am_E P 86 14 [some (.ref M), some (.int m), some (.int (nI w)), some (.int (nI o)), l4, l5, l6] [] h = am_E P 86 46 [some (.ref M), some (.int m), some (.int (nI w)), some (.int (nI o)), some (.int (nI (S.1 4 o 0))), some (.int (nI (S.1 5 o 0))), some (.int 0)] [] h := by
        conv => lhs; rw [hd86_14]
        simp only [r86, hv.g, mo_g, f1, Option.bind_some, if_neg c1, hv.ld 2 (by decide) (by decide) (q := o) (show o < 3 from ho3), hv.ld 5 (by decide) (by decide) (q := o) (show o < 3 from ho3), g2, g3, if_neg c2]
      rw [go]
      obtain ⟨h1, s1, t1, t2⟩ := k_rows P m (o := o) (p := S.1 5 o 0) (nn := S.1 4 o 0) ho3 (by omega) hq2 (S.1 4 o 0) 0 w S h hs hl (by omega) (by omega)
      obtain ⟨k1, k2, k3, k4, k5, k6, k7⟩ := sp_rows_keep o (S.1 5 o 0) (S.1 4 o 0) 0 S
      cases hr : (sp_rows o (S.1 5 o 0) (S.1 4 o 0) 0 S).1 with
      | false =>
        have e : sp_barL m (c + 1) o w S = (none, (sp_rows o (S.1 5 o 0) (S.1 4 o 0) 0 S).2) := by
          unfold sp_barL
          rw [if_neg hz, if_neg (by rw [hr]; decide)]
        rw [e]
        exact ⟨h1, s1, fun _ => t2 hr, fun w' q => by cases q⟩
      | true =>
        have t1 := t1 hr
        obtain ⟨h2, e2, s2⟩ := k_record P s1 (k7 hl) (by omega) 1 (nI o) (nI (S.1 5 o 0)) m (-6)
        have go2 : am_E P 86 110 [some (.ref M), some (.int m), some (.int (nI (w + S.1 4 o 0))), some (.int (nI o)), some (.int (nI (S.1 4 o 0))), some (.int (nI (S.1 5 o 0))), some (.int (nI (S.1 4 o 0)))] [] h1 = am_E P 86 121 [some (.ref M), some (.int m), some (.int (nI (w + S.1 4 o 0))), some (.int (nI o)), some (.int (nI (S.1 4 o 0))), some (.int (nI (S.1 5 o 0))), some (.int (nI (S.1 4 o 0)))] [.int (if (sp_rec (sp_rows o (S.1 5 o 0) (S.1 4 o 0) 0 S).2 1 (nI o) (nI (S.1 5 o 0)) m (-6)).1 = true then 1 else 0)] h2 := by
          simp only [r86, s1.c, if_true, e2, Option.bind_some, Option.toList_some, List.cons_append, List.nil_append]
        have start : am_E P 86 46 [some (.ref M), some (.int m), some (.int (nI w)), some (.int (nI o)), some (.int (nI (S.1 4 o 0))), some (.int (nI (S.1 5 o 0))), some (.int 0)] [] h = am_E P 86 121 [some (.ref M), some (.int m), some (.int (nI (w + S.1 4 o 0))), some (.int (nI o)), some (.int (nI (S.1 4 o 0))), some (.int (nI (S.1 5 o 0))), some (.int (nI (S.1 4 o 0)))] [.int (if (sp_rec (sp_rows o (S.1 5 o 0) (S.1 4 o 0) 0 S).2 1 (nI o) (nI (S.1 5 o 0)) m (-6)).1 = true then 1 else 0)] h2 := t1.trans go2
        rw [start]
        obtain ⟨x1, x2, x3, x4, x5, x6⟩ := sp_close_keep (S := (sp_rows o (S.1 5 o 0) (S.1 4 o 0) 0 S).2) (o := o) (p := S.1 5 o 0) (m := m)
        cases hc : (sp_rec (sp_rows o (S.1 5 o 0) (S.1 4 o 0) 0 S).2 1 (nI o) (nI (S.1 5 o 0)) m (-6)).1 with
        | false =>
          have ec : sp_close (sp_rows o (S.1 5 o 0) (S.1 4 o 0) 0 S).2 o (S.1 5 o 0) m = (false, (sp_rec (sp_rows o (S.1 5 o 0) (S.1 4 o 0) 0 S).2 1 (nI o) (nI (S.1 5 o 0)) m (-6)).2) := by
            unfold sp_close; rw [if_neg (by rw [hc]; decide)]
          have e : sp_barL m (c + 1) o w S = (none, (sp_rec (sp_rows o (S.1 5 o 0) (S.1 4 o 0) 0 S).2 1 (nI o) (nI (S.1 5 o 0)) m (-6)).2) := by
            unfold sp_barL
            rw [if_neg hz, if_pos hr, ec]; rfl
          rw [e]
          refine ⟨h2, s2, fun _ => ?_, fun w' q => by cases q⟩
          simp [r86]
        | true =>
          have ec : sp_close (sp_rows o (S.1 5 o 0) (S.1 4 o 0) 0 S).2 o (S.1 5 o 0) m = (true, sN (sN (sV (sp_rec (sp_rows o (S.1 5 o 0) (S.1 4 o 0) 0 S).2 1 (nI o) (nI (S.1 5 o 0)) m (-6)).2 13 o (S.1 5 o 0) m) 11 o (S.1 5 o 0) 1) 4 o 0 0) := by
            unfold sp_close; rw [if_pos hc]
          have hct : (sp_close (sp_rows o (S.1 5 o 0) (S.1 4 o 0) 0 S).2 o (S.1 5 o 0) m).1 = true := by rw [ec]
          have e : sp_barL m (c + 1) o w S = sp_barL m c (o + 1) (w + S.1 4 o 0) (sp_close (sp_rows o (S.1 5 o 0) (S.1 4 o 0) 0 S).2 o (S.1 5 o 0) m).2 := by
            conv => lhs; unfold sp_barL
            rw [if_neg hz, if_pos hr, if_pos hct]
          rw [e]
          obtain ⟨f3, F3, v3, s3⟩ := MS.op0 ((s2.gV (k := 13) (i := o) (j := S.1 5 o 0) (v := m) (by decide)).gN (k := 11) (i := o) (j := S.1 5 o 0) (v := 1) (by decide)) ho3
          have s4 : MS M n s mem pd (ah_put h2 (M + 2) (ac_I (ml 2) (upd (F3 2) o 0))) (sp_close (sp_rows o (S.1 5 o 0) (S.1 4 o 0) 0 S).2 o (S.1 5 o 0) m).2 := by rw [ec]; exact s3
          have hno : (sp_close (sp_rows o (S.1 5 o 0) (S.1 4 o 0) 0 S).2 o (S.1 5 o 0) m).2.1 0 0 0 = S.1 0 0 0 := (x1 0 0 0 (by omega)).trans (k1 0 0 0 (by omega))
          obtain ⟨h', t3, t4, t5⟩ := ih (o + 1) (w + S.1 4 o 0) _ _ (some (.int (nI (S.1 4 o 0)))) (some (.int (nI (S.1 5 o 0)))) (some (.int (nI (S.1 4 o 0)))) s4 (x6 (k7 hl)) (by rw [hno]; omega) (by rw [hno]; exact h3) (fun q hq3 => by
            rw [x1 5 q 0 (by omega)]
            by_cases hqo : q = o
            · subst hqo
              constructor
              · have : (sp_rows q (S.1 5 q 0) (S.1 4 q 0) 0 S).2.1 5 q 0 ≤ S.1 5 q 0 + 1 := by
                  have : ∀ (cnt k : Nat) (T : sp), T.1 5 q 0 ≤ S.1 5 q 0 + 1 → (sp_rows q (S.1 5 q 0) cnt k T).2.1 5 q 0 ≤ S.1 5 q 0 + 1 := by
                    intro cnt
                    induction cnt with
                    | zero => intro k T hT; exact hT
                    | succ cnt ih9 =>
                      intro k T hT
                      unfold sp_rows
                      split
                      · rename_i ht
                        apply ih9
                        rw [(sp_row_T ht).2]
                        simp [sp_pu, sN_1]
                      · rename_i ht
                        rw [(sp_row_F (by simpa using ht)).2, sr_N (by decide) (by decide)]
                        exact hT
                  exact this _ _ _ (by omega)
                omega
              · rw [ec]; simp [sN_1]
            · rw [k2 q 0 hqo, x2 hct q 0 hqo, k3 hr q 0]
              exact ⟨by have := (hq q hq3).1; omega, (hq q hq3).2⟩) (by omega)
          have go3 : am_E P 86 121 [some (.ref M), some (.int m), some (.int (nI (w + S.1 4 o 0))), some (.int (nI o)), some (.int (nI (S.1 4 o 0))), some (.int (nI (S.1 5 o 0))), some (.int (nI (S.1 4 o 0)))] [.int (if true = true then 1 else 0)] h2 = am_E P 86 14 [some (.ref M), some (.int m), some (.int (nI (w + S.1 4 o 0))), some (.int (nI (o + 1))), some (.int (nI (S.1 4 o 0))), some (.int (nI (S.1 5 o 0))), some (.int (nI (S.1 4 o 0)))] [] (ah_put h2 (M + 2) (ac_I (ml 2) (upd (F3 2) o 0))) := by
            have z : ¬ (1 : Int32) = 0 := by decide
            simp only [r86, if_true, if_neg z, v3.g, mo_g, Option.bind_some, nI_1, v3.st 2 (by decide) (by decide) (q := o) (show o < 3 from ho3)]
          rw [go3]
          refine ⟨h', t3, t4, fun w' q => ?_⟩
          obtain ⟨a4, a5, a6, q9⟩ := t5 w' q
          rw [hno] at q9
          exact ⟨a4, a5, a6, q9⟩
theorem k_bar (P : Nat × Nat) (m : Int32) {S : sp} {h : am_H} (hs : MS M n s mem pd h S) (hl : sp_LP S) (h3 : S.1 0 0 0 ≤ 3) (hq : ∀ q, q < 3 → S.1 5 q 0 < 800 ∧ S.1 4 q 0 ≤ 20) (hn : S.1 1 0 0 < 3800) (hb : S.1 2 0 0 < 200) : ∃ h', am_E P 86 0 [some (.ref M), some (.int m), none, none, none, none, none] [] h = some (some (.int (sp_bar S m).1), h') ∧ MS M n s mem pd h' (sp_bar S m).2 := by
  obtain ⟨f, F, hv, ⟨f1, f2, f3, f4, f5, f6, f7, f8, f9, f10⟩, hF, hpd⟩ := id hs
  have s1 : MS M n s mem pd (ah_put h M (ac_O 9 (mo M (va_up f 28 (f 28 + 1))))) (sV S 0 5 0 (S.2 0 5 0 + 1)) := by
    refine ⟨_, F, hv.p 28 (f 28 + 1), ?_, ?_, by simpa [va_up] using hpd⟩
    · simp [m_f, va_up, sV_1, sV_2, f1, f2, f3, f4, f5, f6, f7, f8, f9, f10]
    · simpa [m_F, sV_1, sV_2] using hF
  obtain ⟨h2, s2, t1, t2⟩ := k_barL P m (S.1 0 0 0) 0 0 (sV S 0 5 0 (S.2 0 5 0 + 1)) _ none none none s1 (by simpa [sp_LP, sV_2] using hl) (by simp [sV_1]) h3 (fun q hq3 => ⟨by have := (hq q hq3).1; simp only [sV_1]; omega, (hq q hq3).2⟩) (by simp only [sV_1]; omega)
  have start : am_E P 86 0 [some (.ref M), some (.int m), none, none, none, none, none] [] h = am_E P 86 14 [some (.ref M), some (.int m), some (.int (nI 0)), some (.int (nI 0)), none, none, none] [] (ah_put h M (ac_O 9 (mo M (va_up f 28 (f 28 + 1))))) := by
    simp only [r86, hv.g, mo_g, Option.bind_some, hv.w 28 (by decide), mo_s]
    rfl
  rw [start]
  cases hbL : sp_barL m (S.1 0 0 0) 0 0 (sV S 0 5 0 (S.2 0 5 0 + 1)) with
  | mk r T =>
    have keepB : ∀ (c o w : Nat) (U : sp), (sp_barL m c o w U).2.1 0 0 0 = U.1 0 0 0 ∧ (sp_barL m c o w U).2.1 2 0 0 = U.1 2 0 0 := by
      intro c
      induction c with
      | zero => intro o w U; exact ⟨rfl, rfl⟩
      | succ c ih =>
        intro o w U
        unfold sp_barL
        obtain ⟨k1, -⟩ := sp_rows_keep o (U.1 5 o 0) (U.1 4 o 0) 0 U
        obtain ⟨x1, -⟩ := sp_close_keep (S := (sp_rows o (U.1 5 o 0) (U.1 4 o 0) 0 U).2) (o := o) (p := U.1 5 o 0) (m := m)
        split
        · exact ih _ _ _
        · split
          · split
            · obtain ⟨i1, i2⟩ := ih (o + 1) (w + U.1 4 o 0) (sp_close (sp_rows o (U.1 5 o 0) (U.1 4 o 0) 0 U).2 o (U.1 5 o 0) m).2
              rw [i1, i2]
              exact ⟨(x1 0 0 0 (by omega)).trans (k1 0 0 0 (by omega)), (x1 2 0 0 (by omega)).trans (k1 2 0 0 (by omega))⟩
            · exact ⟨(x1 0 0 0 (by omega)).trans (k1 0 0 0 (by omega)), (x1 2 0 0 (by omega)).trans (k1 2 0 0 (by omega))⟩
          · exact ⟨k1 0 0 0 (by omega), k1 2 0 0 (by omega)⟩
    have kb := keepB (S.1 0 0 0) 0 0 (sV S 0 5 0 (S.2 0 5 0 + 1))
    rw [hbL] at s2 t1 t2 kb
    cases r with
    | none =>
      refine ⟨h2, ?_, ?_⟩
      · rw [t1 rfl]
        simp only [sp_bar, hbL]
      · simp only [sp_bar, hbL]
        exact s2
    | some w =>
      obtain ⟨a4, a5, a6, t2⟩ := t2 w rfl
      rw [t2]
      have s2' : MS M n s mem pd h2 T := s2
      obtain ⟨f', F', hv', ⟨p1, p2, p3, p4, p5, p6, p7, p8, p9, p10⟩, hF', hpd'⟩ := s2'
      have hnb : T.1 2 0 0 < 200 := by
        have : T.1 2 0 0 = S.1 2 0 0 := kb.2
        omega
      have v1 := hv'.a 23 (by decide) (by decide) (T.1 2 0 0) m
      have v2 := v1.p 27 (nI (T.1 2 0 0 + 1))
      have sfin : MS M n s mem pd (ah_put (ah_put h2 (M + 23) (ac_I (ml 23) (upd (F' 23) (T.1 2 0 0) m))) M (ac_O 9 (mo M (va_up f' 27 (nI (T.1 2 0 0 + 1)))))) (sp_bar S m).2 := by
        simp only [sp_bar, hbL]
        refine ⟨_, _, v2, ?_, ?_, by simpa [va_up] using hpd'⟩
        · simp [m_f, va_up, sN_1, sN_2, sV_1, sV_2, p1, p2, p3, p4, p6, p7, p8, p9, p10]
        · obtain ⟨g1, g2, g3, g4, g5, g6, g7⟩ := hF'
          refine ⟨?_, ?_, ?_, ?_, ?_, ?_, fun i hi => ?_⟩
          · simpa [va_up, sN_1, sN_2, sV_1, sV_2] using g1
          · simpa [va_up, sN_1, sN_2, sV_1, sV_2] using g2
          · simpa [va_up, sN_1, sN_2, sV_1, sV_2] using g3
          · simpa [va_up, sN_1, sN_2, sV_1, sV_2] using g4
          · simpa [va_up, sN_1, sN_2, sV_1, sV_2] using g5
          · simpa [va_up, sN_1, sN_2, sV_1, sV_2] using g6
          · by_cases hi2 : i = T.1 2 0 0
            · subst hi2
              simp [va_up, upd, sN_2, sV_2]
            · have hi3 : i < T.1 2 0 0 := by
                simp [sN_1] at hi
                omega
              simpa [va_up, upd, sN_1, sN_2, sV_1, sV_2, hi2] using g7 i hi3
      refine ⟨_, ?_, sfin⟩
      · simp only [r86, hv'.g, mo_g, p5, Option.bind_some, hv'.st 23 (by decide) (by decide) (q := T.1 2 0 0) (show _ < 201 by omega)]
        simp only [r86, v1.g, mo_g, p5, Option.bind_some, v1.w 27 (by decide), nI_1, mo_s]
        simp [r86, sp_bar, hbL]
end MBar2
