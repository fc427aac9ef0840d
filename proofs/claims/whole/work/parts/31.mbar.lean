/-! The model: a barrier. -/
section MBar
variable {M n s : Nat} {mem : Nat → am_C} {pd : Int32}
/-- given[o] = q, with what else a row's record tells of its part -/
theorem MS.pu {h : am_H} {S : sp} (hs : MS M n s mem pd h S) {o p k : Nat} (ho : o < 3) : ∃ f F, MV M n s mem h f F ∧ MS M n s mem pd (ah_put h (M + 5) (ac_I (ml 5) (upd (F 5) o (nI (p + 1))))) (sp_pu S o p k) := by
  obtain ⟨f, F, hv, hf, hF, hpd⟩ := hs
  refine ⟨f, F, hv, ?_⟩
  have v1 := hv.a 5 (by decide) (by decide) o (nI (p + 1))
  have base : MS M n s mem pd (ah_put h (M + 5) (ac_I (ml 5) (upd (F 5) o (nI (p + 1))))) (sN S 5 o 0 (p + 1)) := by
    refine ⟨f, _, v1, ?_, ?_, hpd⟩
    · obtain ⟨f1, f2, f3, f4, f5, f6, f7, f8, f9, f10⟩ := hf
      exact ⟨f1, f2, f3, f4, f5, f6, f7, f8, f9, f10⟩
    · obtain ⟨g1, g2, g3, g4, g5, g6, g7⟩ := hF
      refine ⟨fun a ha => ?_, ?_, ?_, ?_, ?_, ?_, ?_⟩
      · obtain ⟨a1, a2, a3, a4, a5, a6⟩ := g1 a ha
        by_cases hao : a = o
        · subst hao
          simpa [va_up, upd, sN_1, sN_2] using ⟨a1, a2, a4, a5, a6⟩
        · simpa [va_up, upd, sN_1, sN_2, hao] using ⟨a1, a2, a3, a4, a5, a6⟩
      · simpa [va_up, sN_1, sN_2] using g2
      · simpa [va_up, sN_1, sN_2] using g3
      · simpa [va_up, sN_1, sN_2] using g4
      · simpa [va_up, sN_1, sN_2] using g5
      · simpa [va_up, sN_1, sN_2] using g6
      · simpa [va_up, sN_1, sN_2] using g7
  have e : sp_pu S o p k = sN (sN (if k = 0 then sN (sN (sN (sV S 13 o p (-6)) 9 o p (S.1 1 0 0 - 1)) 11 o p 0) 15 o p 0 else S) 10 o p (k + 1)) 5 o 0 (p + 1) := rfl
  -- the others don't reach the model
  have comm : ∀ T : sp, (∀ a b c, a < 9 → T.1 a b c = S.1 a b c) → (∀ a b c, a < 13 → T.2 a b c = S.2 a b c) → MS M n s mem pd (ah_put h (M + 5) (ac_I (ml 5) (upd (F 5) o (nI (p + 1))))) (sN T 5 o 0 (p + 1)) := by
    intro T hN hV
    obtain ⟨f', F', w1, w2, w3, w4⟩ := base
    refine ⟨f', F', w1, ?_, ?_, w4⟩
    · simp only [m_f, sN_1, sN_2] at w2 ⊢
      simpa [hN, hV] using w2
    · simp only [m_F, sN_1, sN_2] at w3 ⊢
      simpa [hN, hV] using w3
  rw [e]
  apply comm
  · intro a b c ha
    have q9 : ¬ a = 9 := by omega
    have q10 : ¬ a = 10 := by omega
    have q11 : ¬ a = 11 := by omega
    have q15 : ¬ a = 15 := by omega
    split <;> simp [sN_1, sV_1, q9, q10, q11, q15]
  · intro a b c ha
    have q13 : ¬ a = 13 := by omega
    split <;> simp [sN_2, sV_2, q13]
theorem sp_pu_N {S : sp} {o p k a b c : Nat} (ha : a < 5 ∨ a = 6 ∨ a = 7 ∨ a = 8) : (sp_pu S o p k).1 a b c = S.1 a b c := by
  have q5 : ¬ a = 5 := by omega
  have q9 : ¬ a = 9 := by omega
  have q10 : ¬ a = 10 := by omega
  have q11 : ¬ a = 11 := by omega
  have q15 : ¬ a = 15 := by omega
  unfold sp_pu
  split <;> simp [sN_1, sV_1, q5, q9, q10, q11, q15]
theorem sp_pu_V {S : sp} {o p k a b c : Nat} (ha : a ≠ 13) : (sp_pu S o p k).2 a b c = S.2 a b c := by
  unfold sp_pu
  split <;> simp [sN_2, sV_2, ha]
theorem sp_pu_LP {S : sp} {o p k : Nat} (h : sp_LP S) : sp_LP (sp_pu S o p k) := by
  unfold sp_LP at h ⊢
  rw [sp_pu_V (by decide)]
  exact h
/-- the rows of an open part -/
theorem k_rows (P : Nat × Nat) (m : Int32) {o p nn : Nat} (ho : o < 3) (hp : p < 1000) (hnn : nn ≤ 20) : ∀ (c k w : Nat) (S : sp) (h : am_H), MS M n s mem pd h S → sp_LP S → S.1 1 0 0 + c < 3999 → k + c = nn →
    ∃ h', MS M n s mem pd h' (sp_rows o p c k S).2 ∧
      ((sp_rows o p c k S).1 = true → am_E P 86 46 [some (.ref M), some (.int m), some (.int (nI w)), some (.int (nI o)), some (.int (nI nn)), some (.int (nI p)), some (.int (nI k))] [] h = am_E P 86 110 [some (.ref M), some (.int m), some (.int (nI (w + c))), some (.int (nI o)), some (.int (nI nn)), some (.int (nI p)), some (.int (nI nn))] [] h') ∧
      ((sp_rows o p c k S).1 = false → am_E P 86 46 [some (.ref M), some (.int m), some (.int (nI w)), some (.int (nI o)), some (.int (nI nn)), some (.int (nI p)), some (.int (nI k))] [] h = some (some (.int (-5)), h')) := by
  intro c
  induction c with
  | zero =>
    intro k w S h hs hl hn hk
    obtain rfl : k = nn := by omega
    refine ⟨h, hs, fun _ => ?_, fun q => by cases q⟩
    have c1 : nI k ≤ nI k := Int32.le_refl _
    rw [hd86_46]
    simp only [r86, if_pos c1, Nat.add_zero]
  | succ c ih =>
    intro k w S h hs hl hn hk
    have c1 : ¬ nI nn ≤ nI k := nI_ge (by omega) (by omega)
    obtain ⟨f, F, hv, ⟨f1, -⟩, hF, -⟩ := id hs
    obtain ⟨g1, g2⟩ := hF.2.1 o k ho (by omega)
    have ix : (20 : Int32) * nI o + nI k = nI (20 * o + k) := by
      rw [show (20 : Int32) = nI 20 from rfl, nI_m, nI_add]
    have b1 : 20 * o + k < 60 := by omega
    obtain ⟨h1, e1, s1⟩ := k_record P hs hl (by omega) 0 (nI o) (nI p) (S.2 2 o k) (S.2 3 o k)
    have start : am_E P 86 46 [some (.ref M), some (.int m), some (.int (nI w)), some (.int (nI o)), some (.int (nI nn)), some (.int (nI p)), some (.int (nI k))] [] h = am_E P 86 85 [some (.ref M), some (.int m), some (.int (nI w)), some (.int (nI o)), some (.int (nI nn)), some (.int (nI p)), some (.int (nI k))] [.int (if (sp_rec S 0 (nI o) (nI p) (S.2 2 o k) (S.2 3 o k)).1 = true then 1 else 0)] h1 := by
      rw [hd86_46]
      simp only [r86, if_neg c1, hv.g, mo_g, Option.bind_some, ix, hv.ld 3 (by decide) (by decide) (q := 20 * o + k) b1, hv.ld 4 (by decide) (by decide) (q := 20 * o + k) b1, g1, g2, hs.c, if_true, e1, Option.toList_some, List.cons_append, List.nil_append]
    rw [start]
    cases hb : (sp_rec S 0 (nI o) (nI p) (S.2 2 o k) (S.2 3 o k)).1 with
    | false =>
      have hrow : sp_row S o p k = (false, (sp_rec S 0 (nI o) (nI p) (S.2 2 o k) (S.2 3 o k)).2) := by
        unfold sp_row
        rw [if_neg (by rw [hb]; decide)]
      have hrows : sp_rows o p (c + 1) k S = (false, (sp_rec S 0 (nI o) (nI p) (S.2 2 o k) (S.2 3 o k)).2) := by
        unfold sp_rows
        rw [hrow]; rfl
      rw [hrows]
      refine ⟨h1, s1, fun q => (by cases q), fun _ => ?_⟩
      simp [r86]
    | true =>
      have hrow : sp_row S o p k = (true, sp_pu (sp_rec S 0 (nI o) (nI p) (S.2 2 o k) (S.2 3 o k)).2 o p k) := by
        unfold sp_row
        rw [if_pos hb]
      have hrows : sp_rows o p (c + 1) k S = sp_rows o p c (k + 1) (sp_pu (sp_rec S 0 (nI o) (nI p) (S.2 2 o k) (S.2 3 o k)).2 o p k) := by
        conv => lhs; unfold sp_rows
        rw [hrow]; rfl
      rw [hrows]
      obtain ⟨f2, F2, v2, s2⟩ := MS.pu (p := p) (k := k) s1 ho
      have hn2 : (sp_pu (sp_rec S 0 (nI o) (nI p) (S.2 2 o k) (S.2 3 o k)).2 o p k).1 1 0 0 + c < 3999 := by
        rw [sp_pu_N (by omega), sr_nrT hb]; omega
      obtain ⟨h3, t1, t2, t3⟩ := ih (k + 1) (w + 1) _ _ s2 (sp_pu_LP (sr_LP hl)) hn2 (by omega)
      have go : am_E P 86 85 [some (.ref M), some (.int m), some (.int (nI w)), some (.int (nI o)), some (.int (nI nn)), some (.int (nI p)), some (.int (nI k))] [.int (if true = true then 1 else 0)] h1 = am_E P 86 46 [some (.ref M), some (.int m), some (.int (nI (w + 1))), some (.int (nI o)), some (.int (nI nn)), some (.int (nI p)), some (.int (nI (k + 1)))] [] (ah_put h1 (M + 5) (ac_I (ml 5) (upd (F2 5) o (nI (p + 1))))) := by
        have z : ¬ (1 : Int32) = 0 := by decide
        simp only [r86, if_true, if_neg z, v2.g, mo_g, Option.bind_some, nI_1, v2.st 5 (by decide) (by decide) (q := o) (show o < 3 from ho)]
      rw [go]
      refine ⟨h3, t1, fun q => ?_, fun q => ?_⟩
      · rw [t2 q, show w + 1 + c = w + (c + 1) by omega]
      · exact t3 q
end MBar
