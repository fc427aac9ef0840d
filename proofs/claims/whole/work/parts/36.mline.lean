/-! The model: a row comes to lines, to a table. -/
theorem q_has_mono {S : sp} {o p pl i : Nat} (h : q_has S o p pl i = true) : ∀ j, q_has S o p pl (i + j) = true := by
  intro j
  induction j with
  | zero => exact h
  | succ j ih =>
    show q_has S o p pl (i + j + 1) = true
    unfold q_has
    rw [ih]
    rfl
section ML
variable {M n s : Nat} {mem : Nat → am_C} {h : am_H} {S : sp} {pd : Int32}
theorem k_line (P : Nat × Nat) (hs : MS M n s mem pd h S) {o p pl r : Nat} (ho : o < 3) (hl9 : ∀ a, a < 3 → S.1 6 a 0 < 2000) (hr : r < S.1 1 0 0) (hn : S.1 1 0 0 < 4000) : ∃ h', am_E P 92 0 [some (.ref M), some (.int (nI o)), some (.int (nI p)), some (.int (nI pl)), some (.int (nI r)), none, none] [] h = some (some (.int (nI (sp_line S o p pl r).1)), h') ∧ MS M n s mem pd h' (sp_line S o p pl r).2 := by
  have hl := hl9 o ho
  obtain ⟨f, F, hv, hf, hF, hpd⟩ := id hs
  have hfr : nI o * 100 * 20 = nI (2000 * o) := by
    rw [show (100 : Int32) = nI 100 from rfl, show (20 : Int32) = nI 20 from rfl, nI_m, nI_m]
    congr 1
    omega
  obtain ⟨g1, g2, g3, g4, g5, g6⟩ := hF.1 o ho
  have loop : ∀ k i, i + k = S.1 6 o 0 → q_has S o p pl i = false →
      (q_has S o p pl (S.1 6 o 0) = true → am_E P 92 13 [some (.ref M), some (.int (nI o)), some (.int (nI p)), some (.int (nI pl)), some (.int (nI r)), some (.int (nI (2000 * o))), some (.int (nI (2000 * o + i)))] [] h = some (some (.int 0), h)) ∧
      (q_has S o p pl (S.1 6 o 0) = false → am_E P 92 13 [some (.ref M), some (.int (nI o)), some (.int (nI p)), some (.int (nI pl)), some (.int (nI r)), some (.int (nI (2000 * o))), some (.int (nI (2000 * o + i)))] [] h = am_E P 92 57 [some (.ref M), some (.int (nI o)), some (.int (nI p)), some (.int (nI pl)), some (.int (nI r)), some (.int (nI (2000 * o))), some (.int (nI (2000 * o + S.1 6 o 0)))] [] h) := by
    intro k
    induction k with
    | zero =>
      intro i hi hq
      obtain rfl : i = S.1 6 o 0 := by omega
      refine ⟨fun q => (by rw [q] at hq; cases hq), fun _ => ?_⟩
      have c : nI (2000 * o + S.1 6 o 0) ≤ nI (2000 * o + S.1 6 o 0) := Int32.le_refl _
      rw [hd92_13]
      simp only [r92, hv.g, mo_g, Option.bind_some, hv.ld 13 (by decide) (by decide) (q := o) (show o < 3 from ho), g6, nI_add, if_pos c]
    | succ k ih =>
      intro i hi hq
      have c : ¬ nI (2000 * o + S.1 6 o 0) ≤ nI (2000 * o + i) := nI_ge (by omega) (by omega)
      obtain ⟨x1, x2, x3, x4⟩ := hF.2.2.2.1 o i ho (by omega)
      have b1 : 2000 * o + i < 6000 := by omega
      have hst : q_has S o p pl (i + 1) = (decide (S.2 8 o i = nI p) && decide (S.2 9 o i = nI pl)) := by
        conv => lhs; unfold q_has
        rw [hq]
        rfl
      have step : am_E P 92 13 [some (.ref M), some (.int (nI o)), some (.int (nI p)), some (.int (nI pl)), some (.int (nI r)), some (.int (nI (2000 * o))), some (.int (nI (2000 * o + i)))] [] h = if S.2 8 o i = nI p then (if S.2 9 o i = nI pl then some (some (.int 0), h) else am_E P 92 13 [some (.ref M), some (.int (nI o)), some (.int (nI p)), some (.int (nI pl)), some (.int (nI r)), some (.int (nI (2000 * o))), some (.int (nI (2000 * o + (i + 1))))] [] h) else am_E P 92 13 [some (.ref M), some (.int (nI o)), some (.int (nI p)), some (.int (nI pl)), some (.int (nI r)), some (.int (nI (2000 * o))), some (.int (nI (2000 * o + (i + 1))))] [] h := by
        conv => lhs; rw [hd92_13]
        simp only [r92, hv.g, mo_g, Option.bind_some, hv.ld 13 (by decide) (by decide) (q := o) (show o < 3 from ho), g6, nI_add, if_neg c, hv.ld 16 (by decide) (by decide) (q := 2000 * o + i) b1, hv.ld 17 (by decide) (by decide) (q := 2000 * o + i) b1, x3, x4, nI_1, Nat.add_assoc]
      rw [step]
      by_cases c1 : S.2 8 o i = nI p
      · by_cases c2 : S.2 9 o i = nI pl
        · have ht : q_has S o p pl (i + 1) = true := by rw [hst]; simp [c1, c2]
          have htt := q_has_mono ht k
          rw [show i + 1 + k = S.1 6 o 0 by omega] at htt
          rw [if_pos c1, if_pos c2, htt]
          exact ⟨fun _ => rfl, fun q => by cases q⟩
        · have hf9 : q_has S o p pl (i + 1) = false := by rw [hst]; simp [c2]
          rw [if_pos c1, if_neg c2]
          exact ih (i + 1) (by omega) hf9
      · have hf9 : q_has S o p pl (i + 1) = false := by rw [hst]; simp [c1]
        rw [if_neg c1]
        exact ih (i + 1) (by omega) hf9
  obtain ⟨l1, l2⟩ := loop _ 0 (Nat.zero_add _) rfl
  have start : am_E P 92 0 [some (.ref M), some (.int (nI o)), some (.int (nI p)), some (.int (nI pl)), some (.int (nI r)), none, none] [] h = am_E P 92 13 [some (.ref M), some (.int (nI o)), some (.int (nI p)), some (.int (nI pl)), some (.int (nI r)), some (.int (nI (2000 * o))), some (.int (nI (2000 * o + 0)))] [] h := by
    simp only [r92, hfr, Nat.add_zero]
  rw [start]
  cases hh : q_has S o p pl (S.1 6 o 0) with
  | true =>
    have e : sp_line S o p pl r = (0, S) := by unfold sp_line; rw [if_pos hh]
    rw [e]
    exact ⟨h, l1 hh, hs⟩
  | false =>
    have e : sp_line S o p pl r = (1, sN (sV (sV (sV (sV S 6 o (S.1 6 o 0) (S.2 4 r 3)) 7 o (S.1 6 o 0) (S.2 4 r 4)) 8 o (S.1 6 o 0) (nI p)) 9 o (S.1 6 o 0) (nI pl)) 6 o 0 (S.1 6 o 0 + 1)) := by
      unfold sp_line; rw [if_neg (by rw [hh]; decide)]
    rw [e, l2 hh]
    obtain ⟨y0, y1, y2, y3, y4⟩ := hF.2.2.1 r hr
    have b1 : 2000 * o + S.1 6 o 0 < 6000 := by omega
    have b2 : r < 4000 := by omega
    have v1 := hv.a 14 (by decide) (by decide) (2000 * o + S.1 6 o 0) (S.2 4 r 3)
    have v2 := v1.a 15 (by decide) (by decide) (2000 * o + S.1 6 o 0) (S.2 4 r 4)
    have v3 := v2.a 16 (by decide) (by decide) (2000 * o + S.1 6 o 0) (nI p)
    have v4 := v3.a 17 (by decide) (by decide) (2000 * o + S.1 6 o 0) (nI pl)
    have v5 := v4.a 13 (by decide) (by decide) o (nI (S.1 6 o 0 + 1))
    refine ⟨_, ?_, f, _, v5, ?_, ?_, hpd⟩
    · simp only [r92, hv.g, mo_g, Option.bind_some, hv.ld 13 (by decide) (by decide) (q := o) (show o < 3 from ho), g6, nI_add, hv.ld 11 (by decide) (by decide) (q := r) b2, y3, hv.st 14 (by decide) (by decide) (q := 2000 * o + S.1 6 o 0) b1]
      have z12 : va_up F 14 (upd (F 14) (2000 * o + S.1 6 o 0) (S.2 4 r 3)) 12 = F 12 := by simp [va_up]
      have z13 : va_up F 14 (upd (F 14) (2000 * o + S.1 6 o 0) (S.2 4 r 3)) 13 = F 13 := by simp [va_up]
      simp only [r92, v1.g, mo_g, Option.bind_some, v1.ld 12 (by decide) (by decide) (q := r) b2, z12, y4, v1.st 15 (by decide) (by decide) (q := 2000 * o + S.1 6 o 0) b1]
      simp only [r92, v2.g, mo_g, Option.bind_some, v2.st 16 (by decide) (by decide) (q := 2000 * o + S.1 6 o 0) b1]
      simp only [r92, v3.g, mo_g, Option.bind_some, v3.st 17 (by decide) (by decide) (q := 2000 * o + S.1 6 o 0) b1]
      have z5 : va_up (va_up (va_up (va_up F 14 (upd (F 14) (2000 * o + S.1 6 o 0) (S.2 4 r 3))) 15 (upd (va_up F 14 (upd (F 14) (2000 * o + S.1 6 o 0) (S.2 4 r 3)) 15) (2000 * o + S.1 6 o 0) (S.2 4 r 4))) 16 (upd (va_up (va_up F 14 (upd (F 14) (2000 * o + S.1 6 o 0) (S.2 4 r 3))) 15 (upd (va_up F 14 (upd (F 14) (2000 * o + S.1 6 o 0) (S.2 4 r 3)) 15) (2000 * o + S.1 6 o 0) (S.2 4 r 4)) 16) (2000 * o + S.1 6 o 0) (nI p))) 17 (upd (va_up (va_up (va_up F 14 (upd (F 14) (2000 * o + S.1 6 o 0) (S.2 4 r 3))) 15 (upd (va_up F 14 (upd (F 14) (2000 * o + S.1 6 o 0) (S.2 4 r 3)) 15) (2000 * o + S.1 6 o 0) (S.2 4 r 4))) 16 (upd (va_up (va_up F 14 (upd (F 14) (2000 * o + S.1 6 o 0) (S.2 4 r 3))) 15 (upd (va_up F 14 (upd (F 14) (2000 * o + S.1 6 o 0) (S.2 4 r 3)) 15) (2000 * o + S.1 6 o 0) (S.2 4 r 4)) 16) (2000 * o + S.1 6 o 0) (nI p)) 17) (2000 * o + S.1 6 o 0) (nI pl)) 13 o = F 13 o := by simp [va_up]
      simp only [r92, v4.g, mo_g, Option.bind_some, v4.ld 13 (by decide) (by decide) (q := o) (show o < 3 from ho), z5, g6, nI_1, v4.st 13 (by decide) (by decide) (q := o) (show o < 3 from ho)]
      rfl
    · obtain ⟨f1, f2, f3, f4, f5, f6, f7, f8, f9, f10⟩ := hf
      exact ⟨f1, f2, f3, f4, f5, f6, f7, f8, f9, f10⟩
    · obtain ⟨k1, k2, k3, k4, k5, k6, k7⟩ := hF
      refine ⟨fun a ha => ?_, ?_, ?_, fun a i ha hi => ?_, ?_, ?_, ?_⟩
      · obtain ⟨a1, a2, a3, a4, a5, a6⟩ := k1 a ha
        by_cases hao : a = o
        · subst hao
          simpa [va_up, upd, sN_1, sN_2, sV_1, sV_2] using ⟨a1, a2, a3, a4, a5⟩
        · simpa [va_up, upd, sN_1, sN_2, sV_1, sV_2, hao] using ⟨a1, a2, a3, a4, a5, a6⟩
      · simpa [va_up, sN_1, sN_2, sV_1, sV_2] using k2
      · simpa [va_up, sN_1, sN_2, sV_1, sV_2] using k3
      · by_cases hao : a = o
        · subst hao
          by_cases hi2 : i = S.1 6 a 0
          · subst hi2
            simp [va_up, upd, sN_1, sN_2, sV_1, sV_2]
          · have hi3 : i < S.1 6 a 0 := by
              simp [sN_1] at hi
              omega
            have hne : ¬ 2000 * a + i = 2000 * a + S.1 6 a 0 := by omega
            simpa [va_up, upd, sN_1, sN_2, sV_1, sV_2, hi2, hne] using k4 a i ha hi3
        · have hi3 : i < S.1 6 a 0 := by simpa [sN_1, sV_1, hao] using hi
          have hb9 := hl9 a ha
          have hne : ¬ 2000 * a + i = 2000 * o + S.1 6 o 0 := by omega
          simpa [va_up, upd, sN_1, sN_2, sV_1, sV_2, hao, hne] using k4 a i ha hi3
      · simpa [va_up, sN_1, sN_2, sV_1, sV_2] using k5
      · simpa [va_up, sN_1, sN_2, sV_1, sV_2] using k6
      · simpa [va_up, sN_1, sN_2, sV_1, sV_2] using k7
theorem k_last (P : Nat × Nat) (hs : MS M n s mem pd h S) {o p pl r : Nat} (ho : o < 3) (hr : r < S.1 1 0 0) (hn : S.1 1 0 0 < 4000) (hkey : 0 ≤ S.2 4 r 3 ∧ S.2 4 r 3 < 10) : ∃ h', am_E P 93 0 [some (.ref M), some (.int (nI o)), some (.int (nI p)), some (.int (nI pl)), some (.int (nI r)), none] [] h = some (some (.int (nI (sp_last S o p pl r).1)), h') ∧ MS M n s mem pd h' (sp_last S o p pl r).2 := by
  obtain ⟨f, F, hv, hf, hF, hpd⟩ := id hs
  obtain ⟨y0, y1, y2, y3, y4⟩ := hF.2.2.1 r hr
  have b2 : r < 4000 := by omega
  obtain ⟨q, hq, hqe⟩ : ∃ q : Nat, q < 10 ∧ S.2 4 r 3 = nI q := by
    obtain ⟨j, j1, j2⟩ := nI_of2 (M := 9) (n := 9) rfl (Int32.not_lt.mpr hkey.1) (by
      have := hkey.2
      rw [i_lt] at this
      rw [i_le]
      have z : (10 : Int32).toInt = 10 := rfl
      have z9 : (9 : Int32).toInt = 9 := rfl
      omega)
    exact ⟨j, by omega, j2⟩
  have hcl : (S.2 4 r 3).toNatClampNeg = q := by rw [hqe]; exact nI_clamp (by omega)
  have ix : (10 : Int32) * nI o + S.2 4 r 3 = nI (10 * o + q) := by
    rw [hqe, show (10 : Int32) = nI 10 from rfl, nI_m, nI_add]
  have b1 : 10 * o + q < 30 := by omega
  obtain ⟨x1, x2, x3⟩ := hF.2.2.2.2.1 o q ho hq
  have fin : (sp_last S o p pl r = (1, sV (sV (sV S 10 o q (nI p)) 11 o q (nI pl)) 12 o q (S.2 4 r 4))) → ∃ h', am_E P 93 61 [some (.ref M), some (.int (nI o)), some (.int (nI p)), some (.int (nI pl)), some (.int (nI r)), some (.int (nI (10 * o + q)))] [] h = some (some (.int (nI (sp_last S o p pl r).1)), h') ∧ MS M n s mem pd h' (sp_last S o p pl r).2 := by
    intro e
    rw [e]
    have v1 := hv.a 18 (by decide) (by decide) (10 * o + q) (nI p)
    have v2 := v1.a 19 (by decide) (by decide) (10 * o + q) (nI pl)
    have v3 := v2.a 20 (by decide) (by decide) (10 * o + q) (S.2 4 r 4)
    refine ⟨_, ?_, f, _, v3, ?_, ?_, hpd⟩
    · simp only [r93, hv.g, mo_g, Option.bind_some, hv.st 18 (by decide) (by decide) (q := 10 * o + q) b1]
      simp only [r93, v1.g, mo_g, Option.bind_some, v1.st 19 (by decide) (by decide) (q := 10 * o + q) b1]
      have z12 : va_up (va_up F 18 (upd (F 18) (10 * o + q) (nI p))) 19 (upd (va_up F 18 (upd (F 18) (10 * o + q) (nI p)) 19) (10 * o + q) (nI pl)) 12 r = F 12 r := by simp [va_up]
      simp only [r93, v2.g, mo_g, Option.bind_some, v2.ld 12 (by decide) (by decide) (q := r) b2, z12, y4, v2.st 20 (by decide) (by decide) (q := 10 * o + q) b1]
      rfl
    · obtain ⟨f1, f2, f3, f4, f5, f6, f7, f8, f9, f10⟩ := hf
      exact ⟨f1, f2, f3, f4, f5, f6, f7, f8, f9, f10⟩
    · obtain ⟨k1, k2, k3, k4, k5, k6, k7⟩ := hF
      refine ⟨?_, ?_, ?_, ?_, fun a i ha hi => ?_, ?_, ?_⟩
      · simpa [va_up, sN_1, sN_2, sV_1, sV_2] using k1
      · simpa [va_up, sN_1, sN_2, sV_1, sV_2] using k2
      · simpa [va_up, sN_1, sN_2, sV_1, sV_2] using k3
      · simpa [va_up, sN_1, sN_2, sV_1, sV_2] using k4
      · by_cases hai : a = o ∧ i = q
        · obtain ⟨rfl, rfl⟩ := hai
          simp [va_up, upd, sV_1, sV_2]
        · have hne : ¬ 10 * a + i = 10 * o + q := by omega
          simpa [va_up, upd, sV_1, sV_2, hai, hne] using k5 a i ha hi
      · simpa [va_up, sN_1, sN_2, sV_1, sV_2] using k6
      · simpa [va_up, sN_1, sN_2, sV_1, sV_2] using k7
  have start : am_E P 93 0 [some (.ref M), some (.int (nI o)), some (.int (nI p)), some (.int (nI pl)), some (.int (nI r)), none] [] h = if S.2 10 o q = -6 then am_E P 93 61 [some (.ref M), some (.int (nI o)), some (.int (nI p)), some (.int (nI pl)), some (.int (nI r)), some (.int (nI (10 * o + q)))] [] h else if nI p < S.2 10 o q then some (some (.int 0), h) else if S.2 10 o q = nI p then (if S.2 11 o q < nI pl then am_E P 93 61 [some (.ref M), some (.int (nI o)), some (.int (nI p)), some (.int (nI pl)), some (.int (nI r)), some (.int (nI (10 * o + q)))] [] h else some (some (.int 0), h)) else am_E P 93 61 [some (.ref M), some (.int (nI o)), some (.int (nI p)), some (.int (nI pl)), some (.int (nI r)), some (.int (nI (10 * o + q)))] [] h := by
    simp only [r93, hv.g, mo_g, Option.bind_some, hv.ld 11 (by decide) (by decide) (q := r) b2, y3, ix, hv.ld 18 (by decide) (by decide) (q := 10 * o + q) b1, hv.ld 19 (by decide) (by decide) (q := 10 * o + q) b1, x1, x2]
  rw [start]
  by_cases c1 : S.2 10 o q = -6
  · rw [if_pos c1]
    exact fin (by unfold sp_last; rw [hcl, if_neg (fun w => w.1 c1)])
  · rw [if_neg c1]
    by_cases c2 : nI p < S.2 10 o q
    · rw [if_pos c2]
      have e : sp_last S o p pl r = (0, S) := by unfold sp_last; rw [hcl, if_pos ⟨c1, Or.inl c2⟩]
      rw [e]
      exact ⟨h, rfl, hs⟩
    · rw [if_neg c2]
      by_cases c3 : S.2 10 o q = nI p
      · rw [if_pos c3]
        by_cases c4 : S.2 11 o q < nI pl
        · rw [if_pos c4]
          refine fin ?_
          unfold sp_last
          rw [hcl, if_neg]
          rintro ⟨-, w | w⟩
          · exact c2 w
          · exact absurd c4 (Int32.not_lt.mpr w.2)
        · rw [if_neg c4]
          have e : sp_last S o p pl r = (0, S) := by unfold sp_last; rw [hcl, if_pos ⟨c1, Or.inr ⟨c3, Int32.not_lt.mp c4⟩⟩]
          rw [e]
          exact ⟨h, rfl, hs⟩
      · rw [if_neg c3]
        refine fin ?_
        unfold sp_last
        rw [hcl, if_neg]
        rintro ⟨-, w | w⟩
        · exact c2 w
        · exact c3 w.1
end ML
