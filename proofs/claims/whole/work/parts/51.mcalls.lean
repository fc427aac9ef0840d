/-! The model: the calls that change something. -/
theorem nI_m1 {n : Nat} (h : n < 2 ^ 31) : (nI n - 1).toInt = (n : Int) - 1 := by
  have z1 : (1 : Int32).toInt = 1 := rfl
  rw [Int32.toInt_sub, nI_toInt (by omega), z1]
  apply Int.bmod_eq_of_le <;> omega
theorem str_N {o : Int32} {n : Nat} (hn : n < 2 ^ 31) (h : am_ix o n = none) : o < 0 ∨ nI n - 1 < o := by
  have := ix_none h
  rw [i_lt, i_lt, nI_m1 hn]
  have z0 : (0 : Int32).toInt = 0 := rfl
  omega
theorem str_S {o : Int32} {n k : Nat} (hn : n < 2 ^ 31) (h : am_ix o n = some k) : ¬ (o < 0 ∨ nI n - 1 < o) ∧ o = nI k ∧ k < n := by
  obtain ⟨h1, h2⟩ := ix_some h
  have h2 := h2 hn
  refine ⟨?_, h2, h1⟩
  rw [i_lt, i_lt, nI_m1 hn, h2, nI_toInt (by omega)]
  have z0 : (0 : Int32).toInt = 0 := rfl
  omega
section MCa
variable {M n s : Nat} {mem : Nat → am_C} {pd : Int32} {S : sp} {h : am_H} {c : Nat}
theorem k_output (P : Nat × Nat) (hs : MS M n s mem pd h S) (hk : KI S c) (hc : c < 100) (x : Int32) : ∃ h' pd', am_E P 82 0 [some (.ref M), some (.int x)] [] h = some (some (.int (sp_output S x).1), h') ∧ MS M n s mem pd' h' (sp_output S x).2 := by
  obtain ⟨f, F, hv, hf, hF, hpd⟩ := id hs
  obtain ⟨f1, f2, f3, f4, f5, f6, f7, f8, f9, f10⟩ := id hf
  have h3 := hk.1.1.1.2.2.1
  by_cases c1 : x ≠ 0 ∧ x ≠ 1
  · have e : sp_output S x = (-2, S) := by unfold sp_output; rw [if_pos c1]
    rw [e]
    refine ⟨h, pd, ?_, hs⟩
    have c2 : x < 0 ∨ 1 < x := by
      have q0 : x.toInt ≠ 0 := fun q => c1.1 (i_eq.mpr q)
      have q1 : x.toInt ≠ 1 := fun q => c1.2 (i_eq.mpr q)
      rw [i_lt, i_lt]
      have z0 : (0 : Int32).toInt = 0 := rfl
      have z1 : (1 : Int32).toInt = 1 := rfl
      omega
    have z : ¬ (1 : Int32) = 0 := by decide
    simp only [r82, k_no, if_pos c2, Option.bind_some, Option.toList_some, List.cons_append, List.nil_append, if_neg z]
  · have c2 : ¬ (x < 0 ∨ 1 < x) := by
      have q : x = 0 ∨ x = 1 := by
        by_cases h0 : x = 0
        · exact Or.inl h0
        · by_cases h1 : x = 1
          · exact Or.inr h1
          · exact absurd ⟨h0, h1⟩ c1
      rcases q with rfl | rfl <;> decide
    by_cases d1 : S.2 0 2 0 ≠ 0
    · have e : sp_output S x = (-5, S) := by unfold sp_output; rw [if_neg c1, if_pos d1]
      rw [e]
      refine ⟨h, pd, ?_, hs⟩
      simp only [r82, k_no, if_neg c2, Option.bind_some, Option.toList_some, List.cons_append, List.nil_append, if_true, hv.g, mo_g, f8, if_neg d1]
    · have d1' : S.2 0 2 0 = 0 := Classical.byContradiction d1
      by_cases d2 : 0 < S.2 0 5 0
      · have e : sp_output S x = (-3, S) := by unfold sp_output; rw [if_neg c1, if_neg d1, if_pos d2]
        rw [e]
        refine ⟨h, pd, ?_, hs⟩
        have d3 : ¬ S.2 0 5 0 ≤ 0 := Int32.not_le.mpr d2
        simp only [r82, k_no, if_neg c2, Option.bind_some, Option.toList_some, List.cons_append, List.nil_append, if_true, hv.g, mo_g, f8, d1', f6, if_neg d3]
      · have d3 : S.2 0 5 0 ≤ 0 := Int32.not_lt.mp d2
        by_cases d4 : S.1 0 0 0 = 3
        · have e : sp_output S x = (-4, S) := by unfold sp_output; rw [if_neg c1, if_neg d1, if_neg d2, if_pos d4]
          rw [e]
          refine ⟨h, pd, ?_, hs⟩
          have e3 : nI (S.1 0 0 0) = 3 := by rw [d4]; rfl
          simp only [r82, k_no, if_neg c2, Option.bind_some, Option.toList_some, List.cons_append, List.nil_append, if_true, hv.g, mo_g, f8, d1', f6, if_pos d3, f1, e3]
        · have e : sp_output S x = (nI (S.1 0 0 0), sN (sV S 1 (S.1 0 0 0) 0 x) 0 0 0 (S.1 0 0 0 + 1)) := by unfold sp_output; rw [if_neg c1, if_neg d1, if_neg d2, if_neg d4]
          rw [e]
          have e3 : ¬ nI (S.1 0 0 0) = 3 := fun q => d4 ((nI_inj (b := 3) (by omega) (by decide)).mp q)
          have v1 := hv.a 1 (by decide) (by decide) (S.1 0 0 0) x
          have v2 := v1.p 0 (nI (S.1 0 0 0 + 1))
          refine ⟨_, pd, ?_, _, _, v2, ?_, ?_, by simpa [va_up] using hpd⟩
          · simp only [r82, k_no, if_neg c2, Option.bind_some, Option.toList_some, List.cons_append, List.nil_append, if_true, hv.g, mo_g, f8, d1', f6, if_pos d3, f1, if_neg e3, hv.st 1 (by decide) (by decide) (q := S.1 0 0 0) (show _ < 3 by omega)]
            simp only [r82, v1.g, mo_g, f1, Option.bind_some, nI_1, v1.w 0 (by decide), mo_s]
            have e9 : nI (S.1 0 0 0 + 1) - 1 = nI (S.1 0 0 0) := nI_pred _
            simp only [r82, v2.g, mo_g, Option.bind_some, va_up_self, e9]
          · simp [m_f, va_up, sN_1, sN_2, sV_1, sV_2, f2, f3, f4, f5, f6, f7, f8, f9, f10]
          · obtain ⟨g1, g2, g3, g4, g5, g6, g7⟩ := hF
            refine ⟨fun o ho => ?_, ?_, ?_, ?_, ?_, ?_, ?_⟩
            · obtain ⟨a1, a2, a3, a4, a5, a6⟩ := g1 o ho
              by_cases hoo : o = S.1 0 0 0
              · subst hoo
                simpa [va_up, upd, sN_1, sN_2, sV_1, sV_2] using ⟨a2, a3, a4, a5, a6⟩
              · simpa [va_up, upd, sN_1, sN_2, sV_1, sV_2, hoo] using ⟨a1, a2, a3, a4, a5, a6⟩
            · simpa [va_up, sN_1, sN_2, sV_1, sV_2] using g2
            · simpa [va_up, sN_1, sN_2, sV_1, sV_2] using g3
            · simpa [va_up, sN_1, sN_2, sV_1, sV_2] using g4
            · simpa [va_up, sN_1, sN_2, sV_1, sV_2] using g5
            · simpa [va_up, sN_1, sN_2, sV_1, sV_2] using g6
            · simpa [va_up, sN_1, sN_2, sV_1, sV_2] using g7
theorem k_write (P : Nat × Nat) (hs : MS M n s mem pd h S) (hk : KI S c) (o k v : Int32) : ∃ h' pd', am_E P 83 0 [some (.ref M), some (.int o), some (.int k), some (.int v), none] [] h = some (some (.int (sp_write S o k v).1), h') ∧ MS M n s mem pd' h' (sp_write S o k v).2 := by
  obtain ⟨f, F, hv, hf, hF, hpd⟩ := id hs
  obtain ⟨f1, f2, f3, f4, f5, f6, f7, f8, f9, f10⟩ := id hf
  have h3 := hk.1.1.1.2.2.1
  have kst := k_strange P hs o
  have z : ¬ (1 : Int32) = 0 := by decide
  cases hx : am_ix o (S.1 0 0 0) with
  | none =>
    have e : sp_write S o k v = (-1, S) := by unfold sp_write; rw [hx]
    rw [e]
    refine ⟨h, pd, ?_, hs⟩
    rw [if_pos (str_N (by omega) hx)] at kst
    simp only [r83, hv.c, if_true, kst, Option.bind_some, Option.toList_some, List.cons_append, List.nil_append, if_neg z]
  | some o' =>
    obtain ⟨s1, s2, s3⟩ := str_S (by omega) hx
    rw [if_neg s1] at kst
    subst s2
    have ho3 : o' < 3 := by omega
    have g := hF.1 o' ho3
    by_cases c1 : k < 0 ∨ 9 < k
    · have e : sp_write S (nI o') k v = (-2, S) := by unfold sp_write; rw [hx]; simp only; rw [if_pos c1]
      rw [e]
      refine ⟨h, pd, ?_, hs⟩
      simp only [r83, hv.c, if_true, kst, k_no, if_pos c1, Option.bind_some, Option.toList_some, List.cons_append, List.nil_append, if_neg z]
    · by_cases c2 : S.2 0 2 0 ≠ 0
      · have e : sp_write S (nI o') k v = (-5, S) := by unfold sp_write; rw [hx]; simp only; rw [if_neg c1, if_pos c2]
        rw [e]
        refine ⟨h, pd, ?_, hs⟩
        simp only [r83, hv.c, if_true, kst, k_no, if_neg c1, Option.bind_some, Option.toList_some, List.cons_append, List.nil_append, hv.g, mo_g, f8, if_neg c2]
      · have c2' : S.2 0 2 0 = 0 := Classical.byContradiction c2
        by_cases c3 : S.2 0 1 0 ≠ 0
        · have e : sp_write S (nI o') k v = (-3, S) := by unfold sp_write; rw [hx]; simp only; rw [if_neg c1, if_neg c2, if_pos c3]
          rw [e]
          refine ⟨h, pd, ?_, hs⟩
          simp only [r83, hv.c, if_true, kst, k_no, if_neg c1, Option.bind_some, Option.toList_some, List.cons_append, List.nil_append, hv.g, mo_g, f8, c2', f7, if_neg c3]
        · have c3' : S.2 0 1 0 = 0 := Classical.byContradiction c3
          have hop := hk.1.2.2.2.2.1 o'
          by_cases c4 : S.1 4 o' 0 = 20
          · have e : sp_write S (nI o') k v = (-4, S) := by unfold sp_write; rw [hx]; simp only; rw [if_neg c1, if_neg c2, if_neg c3, if_pos c4]
            rw [e]
            refine ⟨h, pd, ?_, hs⟩
            have e20 : nI (S.1 4 o' 0) = 20 := by rw [c4]; rfl
            simp only [r83, hv.c, if_true, kst, k_no, if_neg c1, Option.bind_some, Option.toList_some, List.cons_append, List.nil_append, hv.g, mo_g, f8, c2', f7, c3', hv.ld 2 (by decide) (by decide) (q := o') (show _ < 3 from ho3), g.2.1, e20]
          · have e : sp_write S (nI o') k v = (nI (S.1 4 o' 0 + 1), sN (sV (sV S 2 o' (S.1 4 o' 0) k) 3 o' (S.1 4 o' 0) v) 4 o' 0 (S.1 4 o' 0 + 1)) := by unfold sp_write; rw [hx]; simp only; rw [if_neg c1, if_neg c2, if_neg c3, if_neg c4]
            rw [e]
            have e20 : ¬ nI (S.1 4 o' 0) = 20 := fun q => c4 ((nI_inj (b := 20) (by omega) (by decide)).mp q)
            have ix : (20 : Int32) * nI o' + nI (S.1 4 o' 0) = nI (20 * o' + S.1 4 o' 0) := by
              rw [show (20 : Int32) = nI 20 from rfl, nI_m, nI_add]
            have b1 : 20 * o' + S.1 4 o' 0 < 60 := by omega
            have v1 := hv.a 3 (by decide) (by decide) (20 * o' + S.1 4 o' 0) k
            have v2 := v1.a 4 (by decide) (by decide) (20 * o' + S.1 4 o' 0) v
            have v3 := v2.a 2 (by decide) (by decide) o' (nI (S.1 4 o' 0 + 1))
            refine ⟨_, pd, ?_, f, _, v3, ?_, ?_, hpd⟩
            · simp only [r83, hv.c, if_true, kst, k_no, if_neg c1, Option.bind_some, Option.toList_some, List.cons_append, List.nil_append, hv.g, mo_g, f8, c2', f7, c3', hv.ld 2 (by decide) (by decide) (q := o') (show _ < 3 from ho3), g.2.1, if_neg e20, ix, hv.st 3 (by decide) (by decide) (q := 20 * o' + S.1 4 o' 0) b1]
              simp only [r83, v1.g, mo_g, Option.bind_some, v1.st 4 (by decide) (by decide) (q := 20 * o' + S.1 4 o' 0) b1]
              have z2 : va_up (va_up F 3 (upd (F 3) (20 * o' + S.1 4 o' 0) k)) 4 (upd (va_up F 3 (upd (F 3) (20 * o' + S.1 4 o' 0) k) 4) (20 * o' + S.1 4 o' 0) v) 2 o' = nI (S.1 4 o' 0) := by
                simp [va_up, g.2.1]
              simp only [r83, v2.g, mo_g, Option.bind_some, v2.ld 2 (by decide) (by decide) (q := o') (show _ < 3 from ho3), z2, nI_1, v2.st 2 (by decide) (by decide) (q := o') (show _ < 3 from ho3)]
              simp only [r83, v3.g, mo_g, Option.bind_some, v3.ld 2 (by decide) (by decide) (q := o') (show _ < 3 from ho3), va_up_self]
              simp [upd]
            · exact ⟨f1, f2, f3, f4, f5, f6, f7, f8, f9, f10⟩
            · obtain ⟨g1, g2, g3, g4, g5, g6, g7⟩ := hF
              refine ⟨fun a ha => ?_, fun a i ha hi => ?_, ?_, ?_, ?_, ?_, ?_⟩
              · obtain ⟨a1, a2, a3, a4, a5, a6⟩ := g1 a ha
                by_cases hao : a = o'
                · subst hao
                  simpa [va_up, upd, sN_1, sN_2, sV_1, sV_2] using ⟨a1, a3, a4, a5, a6⟩
                · simpa [va_up, upd, sN_1, sN_2, sV_1, sV_2, hao] using ⟨a1, a2, a3, a4, a5, a6⟩
              · by_cases hai : a = o' ∧ i = S.1 4 o' 0
                · obtain ⟨rfl, rfl⟩ := hai
                  simp [va_up, upd, sN_2, sV_2]
                · have hne : ¬ 20 * a + i = 20 * o' + S.1 4 o' 0 := by omega
                  simpa [va_up, upd, sN_1, sN_2, sV_1, sV_2, hai, hne] using g2 a i ha hi
              · simpa [va_up, sN_1, sN_2, sV_1, sV_2] using g3
              · simpa [va_up, sN_1, sN_2, sV_1, sV_2] using g4
              · simpa [va_up, sN_1, sN_2, sV_1, sV_2] using g5
              · simpa [va_up, sN_1, sN_2, sV_1, sV_2] using g6
              · simpa [va_up, sN_1, sN_2, sV_1, sV_2] using g7
theorem KI.gv {S : sp} {c : Nat} (hk : KI S c) (hc : c < 100) (o : Nat) : S.1 5 o 0 < 300 ∧ S.1 1 0 0 < 300 := by
  have h1 := hk.1.2.1
  have hn : S.1 1 0 0 < 300 := by unfold PH PD at h1; omega
  refine ⟨?_, hn⟩
  by_cases ho : o < S.1 0 0 0
  · have := hk.1.1.1.gv ho
    omega
  · have := (hk.1.1.1.2.2.2.1 o (by omega)).1
    omega
theorem k_barsK (P : Nat × Nat) (hs : MS M n s mem pd h S) (hk : KI S c) (hc : c < 100) (m : Int32) : am_E P 85 0 [some (.ref M), some (.int m), none, none, none] [] h = some (some (.int (sp_bars S m)), h) :=
  k_bars P hs (by have := hk.1.2.2.1; omega) hk.1.1.1.2.2.1 (fun o _ => ⟨by have := (hk.gv hc o).1; omega, by have := hk.1.2.2.2.2.1 o; omega⟩) m
theorem k_barK (P : Nat × Nat) (hs : MS M n s mem pd h S) (hk : KI S c) (hc : c < 100) (m : Int32) : ∃ h', am_E P 86 0 [some (.ref M), some (.int m), none, none, none, none, none] [] h = some (some (.int (sp_bar S m).1), h') ∧ MS M n s mem pd h' (sp_bar S m).2 :=
  k_bar P m hs hk.1.1.1.2.1 hk.1.1.1.2.2.1 (fun o _ => ⟨by have := (hk.gv hc o).1; omega, hk.1.2.2.2.2.1 o⟩) (by have := (hk.gv hc 0).2; omega) (by have := hk.1.2.2.1; omega)
theorem k_barrier (P : Nat × Nat) (hs : MS M n s mem pd h S) (hk : KI S c) (hc : c < 100) (m : Int32) : ∃ h' pd', am_E P 87 0 [some (.ref M), some (.int m), none] [] h = some (some (.int (sp_barrier S m).1), h') ∧ MS M n s mem pd' h' (sp_barrier S m).2 := by
  have kb := k_barsK P hs hk hc m
  by_cases hb : sp_bars S m ≠ 0
  · have e : sp_barrier S m = (sp_bars S m, S) := by unfold sp_barrier; rw [if_pos hb]
    rw [e]
    refine ⟨h, pd, ?_, hs⟩
    simp only [r87, hs.c, if_true, kb, Option.bind_some, Option.toList_some, List.cons_append, List.nil_append, if_neg hb]
  · have hb0 : sp_bars S m = 0 := Classical.byContradiction hb
    have e : sp_barrier S m = sp_bar S m := by unfold sp_barrier; rw [if_neg hb]
    rw [e]
    obtain ⟨h', k1, k2⟩ := k_barK P hs hk hc m
    refine ⟨h', pd, ?_, k2⟩
    simp only [r87, hs.c, if_true, kb, Option.bind_some, Option.toList_some, List.cons_append, List.nil_append, hb0, k1]
theorem MS.mk {S : sp} {h : am_H} {pd : Int32} (hs : MS M n s mem pd h S) (m : Int32) : ∃ f F, MV M n s mem h f F ∧ MS M n s mem pd (ah_put h M (ac_O 9 (mo M (va_up f 25 m)))) (sV S 0 0 0 m) := by
  obtain ⟨f, F, hv, hf, hF, hpd⟩ := hs
  refine ⟨f, F, hv, _, F, hv.p 25 m, ?_, ?_, by simpa [va_up] using hpd⟩
  · obtain ⟨f1, f2, f3, f4, f5, f6, f7, f8, f9, f10⟩ := hf
    simp [m_f, va_up, sV_1, sV_2, f1, f2, f3, f5, f6, f7, f8, f9, f10]
  · simpa [m_F, sV_1, sV_2] using hF
theorem MS.en {S : sp} {h : am_H} {pd : Int32} (hs : MS M n s mem pd h S) (x : Int32) : ∃ f F, MV M n s mem h f F ∧ MS M n s mem pd (ah_put h M (ac_O 9 (mo M (va_up f 29 x)))) (sV S 0 1 0 x) := by
  obtain ⟨f, F, hv, hf, hF, hpd⟩ := hs
  refine ⟨f, F, hv, _, F, hv.p 29 x, ?_, ?_, by simpa [va_up] using hpd⟩
  · obtain ⟨f1, f2, f3, f4, f5, f6, f7, f8, f9, f10⟩ := hf
    simp [m_f, va_up, sV_1, sV_2, f1, f2, f3, f4, f5, f6, f8, f9, f10]
  · simpa [m_F, sV_1, sV_2] using hF
theorem k_show (P : Nat × Nat) (hs : MS M n s mem pd h S) (hk : KI S c) : ∃ h' pd', am_E P 89 0 [some (.ref M)] [] h = some (some (.int (sp_show S).1), h') ∧ MS M n s mem pd' h' (sp_show S).2 := by
  obtain ⟨f, F, hv, hf, hF, hpd⟩ := id hs
  have f8 := hf.2.2.2.2.2.2.2.1
  by_cases d1 : S.2 0 2 0 ≠ 0
  · have e : sp_show S = (-5, S) := by unfold sp_show; rw [if_pos d1]
    rw [e]
    refine ⟨h, pd, ?_, hs⟩
    simp only [r89, hv.g, mo_g, f8, Option.bind_some, if_neg d1]
  · have d1' : S.2 0 2 0 = 0 := Classical.byContradiction d1
    have e : sp_show S = sp_shown S := by unfold sp_show; rw [if_neg d1]
    rw [e]
    obtain ⟨h', k1, k2⟩ := k_shown P hs hk.1.1
    refine ⟨h', _, ?_, k2⟩
    simp only [r89, hv.g, mo_g, f8, d1', Option.bind_some, if_true, hv.c, k1, Option.toList_some, List.cons_append, List.nil_append]
theorem k_keepH (P : Nat × Nat) (hs : MS M n s mem pd h S) (hb : S.1 2 0 0 < 200) (m : Int32) : ∃ l3, am_E P 88 0 [some (.ref M), some (.int m), none, none] [] h = am_E P 88 36 [some (.ref M), some (.int m), some (.int (if q_bh S m (S.1 2 0 0) = true then 1 else 0)), l3] [] h := by
  obtain ⟨f, F, hv, hf, hF, hpd⟩ := id hs
  have f5 := hf.2.2.2.2.1
  have loop : ∀ k i, i + k = S.1 2 0 0 → ∃ l3, am_E P 88 4 [some (.ref M), some (.int m), some (.int (if q_bh S m i = true then 1 else 0)), some (.int (nI i))] [] h = am_E P 88 36 [some (.ref M), some (.int m), some (.int (if q_bh S m (S.1 2 0 0) = true then 1 else 0)), l3] [] h := by
    intro k
    induction k with
    | zero =>
      intro i hi
      obtain rfl : i = S.1 2 0 0 := by omega
      refine ⟨some (.int (nI (S.1 2 0 0))), ?_⟩
      have c1 : nI (S.1 2 0 0) ≤ nI (S.1 2 0 0) := Int32.le_refl _
      conv => lhs; rw [hd88_4]
      simp only [r88, hv.g, mo_g, f5, Option.bind_some, if_pos c1]
    | succ k ih =>
      intro i hi
      obtain ⟨l3, q⟩ := ih (i + 1) (by omega)
      refine ⟨l3, ?_⟩
      rw [← q]
      have c1 : ¬ nI (S.1 2 0 0) ≤ nI i := nI_ge (by omega) (by omega)
      have g := hF.2.2.2.2.2.2 i (by omega)
      conv => lhs; rw [hd88_4]
      simp only [r88, hv.g, mo_g, f5, Option.bind_some, if_neg c1, hv.ld 23 (by decide) (by decide) (q := i) (show i < 201 by omega), g, nI_1]
      have hst : q_bh S m (i + 1) = (q_bh S m i || decide (S.2 5 i 0 = m)) := rfl
      rw [hst]
      by_cases c2 : S.2 5 i 0 = m
      · cases hq : q_bh S m i <;> simp only [c2, if_true, decide_true, Bool.or_true, Bool.false_eq_true, if_false] <;> rfl
      · cases hq : q_bh S m i <;> simp only [c2, if_true, if_false, decide_false, Bool.or_false, Bool.false_eq_true] <;> rfl
  obtain ⟨l3, q⟩ := loop _ 0 (Nat.zero_add _)
  refine ⟨l3, ?_⟩
  rw [← q]
  simp only [r88]
  rfl
theorem k_keep (P : Nat × Nat) (hs : MS M n s mem pd h S) (hk : KI S c) (hc : c < 100) (m : Int32) : ∃ h' pd', am_E P 88 0 [some (.ref M), some (.int m), none, none] [] h = some (some (.int (sp_keep S m).1), h') ∧ MS M n s mem pd' h' (sp_keep S m).2 := by
  obtain ⟨f, F, hv, hf, hF, hpd⟩ := id hs
  have f4 := hf.2.2.2.1
  have f8 := hf.2.2.2.2.2.2.2.1
  obtain ⟨l3, q0⟩ := k_keepH P hs (by have := hk.1.2.2.1; omega) m
  rw [q0]
  have z : ¬ (1 : Int32) = 0 := by decide
  by_cases c1 : q_bh S m (S.1 2 0 0) = false ∨ m ≤ S.2 0 0 0
  · have e : sp_keep S m = (-2, S) := by unfold sp_keep; rw [if_pos c1]
    rw [e]
    refine ⟨h, pd, ?_, hs⟩
    cases hq : q_bh S m (S.1 2 0 0) with
    | false => simp only [Bool.false_eq_true, if_false, r88, if_true]
    | true =>
      have c2 : m ≤ S.2 0 0 0 := by
        rcases c1 with q | q
        · rw [hq] at q; cases q
        · exact q
      obtain ⟨i, i1, i2⟩ := q_bh_ex.mp hq
      have c3 : ¬ S.2 0 0 0 < m := Int32.not_lt.mpr c2
      have c4 : ¬ S.2 0 0 0 = -6 := by
        intro q
        have := (hk.1.2.2.2.2.2.2.2.1 i i1).1
        rw [i2, i_le] at this
        rw [q, i_le, nm_m6] at c2
        have z0 : (0 : Int32).toInt = 0 := rfl
        omega
      simp only [if_true, r88, if_neg z, hv.g, mo_g, f4, Option.bind_some, if_neg c4, if_neg c3]
  · obtain ⟨m1, m2, m3⟩ := hk.keepQ c1
    have hq : q_bh S m (S.1 2 0 0) = true := by
      cases hb : q_bh S m (S.1 2 0 0) with
      | true => rfl
      | false => exact absurd (Or.inl hb) c1
    have go : am_E P 88 36 [some (.ref M), some (.int m), some (.int (if q_bh S m (S.1 2 0 0) = true then 1 else 0)), l3] [] h = am_E P 88 60 [some (.ref M), some (.int m), some (.int 1), l3] [] h := by
      simp only [hq, if_true, r88, if_neg z, hv.g, mo_g, f4, Option.bind_some, m1, ite_self]
    rw [go]
    by_cases d1 : S.2 0 2 0 ≠ 0
    · have e : sp_keep S m = (-5, S) := by unfold sp_keep; rw [if_neg c1, if_pos d1]
      rw [e]
      refine ⟨h, pd, ?_, hs⟩
      simp only [r88, hv.g, mo_g, f8, Option.bind_some, if_neg d1]
    · have d1' : S.2 0 2 0 = 0 := Classical.byContradiction d1
      obtain ⟨h1, k1, s1⟩ := k_record P hs hk.1.1.1.2.1 (by have := (hk.gv hc 0).2; omega) 2 (-6) (-6) m (-6)
      cases hr : (sp_rec S 2 (-6) (-6) m (-6)).1 with
      | false =>
        have e : sp_keep S m = (-5, (sp_rec S 2 (-6) (-6) m (-6)).2) := by unfold sp_keep; rw [if_neg c1, if_neg d1, if_neg (by rw [hr]; decide)]
        rw [e]
        refine ⟨h1, pd, ?_, s1⟩
        rw [hr] at k1
        simp only [r88, hv.g, mo_g, f8, d1', Option.bind_some, if_true, hv.c, k1, Option.toList_some, List.cons_append, List.nil_append, Bool.false_eq_true, if_false]
      | true =>
        have e : sp_keep S m = sp_shown (sV (sp_rec S 2 (-6) (-6) m (-6)).2 0 0 0 m) := by unfold sp_keep; rw [if_neg c1, if_neg d1, if_pos hr]
        rw [e]
        have hkT := hk.mono.kept (by omega) (by have := hk.1.2.1; omega) (Or.inl rfl) m1 m3 hr (Or.inl ⟨rfl, rfl⟩)
        obtain ⟨f2, F2, v2, s2⟩ := s1.mk m
        obtain ⟨h', k2, s3⟩ := k_shown P s2 hkT.1.1
        refine ⟨h', _, ?_, s3⟩
        rw [hr] at k1
        simp only [r88, hv.g, mo_g, f8, d1', Option.bind_some, if_true, hv.c, k1, Option.toList_some, List.cons_append, List.nil_append, if_neg z, v2.w 25 (by decide), mo_s, s2.c, k2]
theorem k_end (P : Nat × Nat) (hs : MS M n s mem pd h S) (hk : KI S c) (hc : c < 99) (m : Int32) : ∃ h' pd', am_E P 96 0 [some (.ref M), some (.int m), none] [] h = some (some (.int (sp_end S m).1), h') ∧ MS M n s mem pd' h' (sp_end S m).2 := by
  have kb := k_barsK P hs hk (by omega) m
  have z : ¬ (1 : Int32) = 0 := by decide
  by_cases hb : sp_bars S m ≠ 0
  · have e : sp_end S m = (sp_bars S m, S) := by unfold sp_end; rw [if_pos hb]
    rw [e]
    refine ⟨h, pd, ?_, hs⟩
    simp only [r96, hs.c, if_true, kb, Option.bind_some, Option.toList_some, List.cons_append, List.nil_append, if_neg hb]
  · have hb0 : sp_bars S m = 0 := Classical.byContradiction hb
    obtain ⟨h1, k1, s1⟩ := k_barK P hs hk (by omega) m
    obtain ⟨q1, q2, q3, q4, q5⟩ := hk.bar (by omega) hb0
    have go : am_E P 96 0 [some (.ref M), some (.int m), none] [] h = am_E P 96 17 [some (.ref M), some (.int m), some (.int 0)] [.int (sp_bar S m).1] h1 := by
      simp only [r96, hs.c, if_true, kb, Option.bind_some, Option.toList_some, List.cons_append, List.nil_append, hb0, k1]
    rw [go]
    by_cases hn : (sp_bar S m).1 < 0
    · have e : sp_end S m = (-5, (sp_bar S m).2) := by unfold sp_end; rw [if_neg hb, if_pos hn]
      rw [e]
      refine ⟨h1, pd, ?_, s1⟩
      simp only [r96, if_pos hn]
    · obtain ⟨h2, k2, s2⟩ := k_record P s1 q1.1.1.1.2.1 (by have := (q1.gv (by omega) 0).2; omega) 5 (-6) (-6) m (-6)
      cases hr : (sp_rec (sp_bar S m).2 5 (-6) (-6) m (-6)).1 with
      | false =>
        have e : sp_end S m = (-5, (sp_rec (sp_bar S m).2 5 (-6) (-6) m (-6)).2) := by unfold sp_end; rw [if_neg hb, if_neg hn, if_neg (by rw [hr]; decide)]
        rw [e]
        refine ⟨h2, pd, ?_, s2⟩
        rw [hr] at k2
        simp only [r96, if_neg hn, s1.c, if_true, k2, Option.bind_some, Option.toList_some, List.cons_append, List.nil_append, Bool.false_eq_true, if_false]
      | true =>
        have e : sp_end S m = sp_shown (sV (sV (sp_rec (sp_bar S m).2 5 (-6) (-6) m (-6)).2 0 0 0 m) 0 1 0 1) := by unfold sp_end; rw [if_neg hb, if_neg hn, if_pos hr]
        rw [e]
        have hkT := q1.kept (by omega) (by omega) (Or.inr rfl) (by rw [q4]; exact (hk.1.bars_lt hb0).1) (bars_0 hb0).2.1 hr (Or.inr ⟨rfl, rfl⟩)
        obtain ⟨f3, F3, v3, s3⟩ := s2.mk m
        obtain ⟨f4, F4, v4, s4⟩ := s3.en 1
        obtain ⟨h', k5, s5⟩ := k_shown P s4 hkT.1.1
        refine ⟨h', _, ?_, s5⟩
        rw [hr] at k2
        simp only [r96, if_neg hn, s1.c, if_true, k2, Option.bind_some, Option.toList_some, List.cons_append, List.nil_append, if_neg z, v3.w 25 (by decide), mo_s]
        simp only [r96, or_true, v4.w 29 (by decide), mo_s, Option.bind_some, s4.c, if_true, k5, Option.toList_some, List.cons_append, List.nil_append]
theorem k_fails (P : Nat × Nat) (hs : MS M n s mem pd h S) (hk : KI S c) (o x : Int32) : ∃ h' pd', am_E P 97 0 [some (.ref M), some (.int o), some (.int x), none] [] h = some (some (.int (sp_fails S o x).1), h') ∧ MS M n s mem pd' h' (sp_fails S o x).2 := by
  have h3 := hk.1.1.1.2.2.1
  have kst := k_strange P hs o
  have z : ¬ (1 : Int32) = 0 := by decide
  cases hx : am_ix o (S.1 0 0 0) with
  | none =>
    have e : sp_fails S o x = (-1, S) := by unfold sp_fails; rw [hx]
    rw [e]
    refine ⟨h, pd, ?_, hs⟩
    rw [if_pos (str_N (by omega) hx)] at kst
    simp only [r97, hs.c, if_true, kst, Option.bind_some, Option.toList_some, List.cons_append, List.nil_append, if_neg z]
  | some o' =>
    obtain ⟨s1, s2, s3⟩ := str_S (by omega) hx
    rw [if_neg s1] at kst
    subst s2
    have ho3 : o' < 3 := by omega
    by_cases c1 : x < 0 ∨ 100 < x
    · have e : sp_fails S (nI o') x = (-2, S) := by unfold sp_fails; rw [hx]; simp only; rw [if_pos c1]
      rw [e]
      refine ⟨h, pd, ?_, hs⟩
      simp only [r97, hs.c, if_true, kst, k_no, if_pos c1, Option.bind_some, Option.toList_some, List.cons_append, List.nil_append, if_neg z]
    · have e : sp_fails S (nI o') x = (S.2 1 o' 2, sV S 1 o' 2 x) := by unfold sp_fails; rw [hx]; simp only; rw [if_neg c1]
      rw [e]
      obtain ⟨f2, F2, v2, t2, s9⟩ := hs.fl ho3 x
      refine ⟨_, pd, ?_, s9⟩
      simp only [r97, hs.c, if_true, kst, k_no, if_neg c1, Option.bind_some, Option.toList_some, List.cons_append, List.nil_append, v2.g, mo_g, v2.ld 7 (by decide) (by decide) (q := o') (show _ < 3 from ho3), t2, v2.st 7 (by decide) (by decide) (q := o') (show _ < 3 from ho3)]
theorem k_power (P : Nat × Nat) (hs : MS M n s mem pd h S) (k : Int32) : ∃ h' pd', am_E P 98 0 [some (.ref M), some (.int k)] [] h = some (some (.int (sp_power S k).1), h') ∧ MS M n s mem pd' h' (sp_power S k).2 := by
  obtain ⟨f, F, hv, hf, hF, hpd⟩ := id hs
  have f8 := hf.2.2.2.2.2.2.2.1
  have z : ¬ (1 : Int32) = 0 := by decide
  by_cases c1 : k ≠ -6 ∧ (k < 1 ∨ 5000 < k)
  · have e : sp_power S k = (-2, S) := by unfold sp_power; rw [if_pos c1]
    rw [e]
    refine ⟨h, pd, ?_, hs⟩
    simp only [r98, if_neg c1.1, k_no, if_pos c1.2, Option.bind_some, Option.toList_some, List.cons_append, List.nil_append, if_neg z]
  · have go : am_E P 98 0 [some (.ref M), some (.int k)] [] h = am_E P 98 20 [some (.ref M), some (.int k)] [] h := by
      by_cases h6 : k = -6
      · simp only [r98, if_pos h6]
      · have c2 : ¬ (k < 1 ∨ 5000 < k) := fun q => c1 ⟨h6, q⟩
        simp only [r98, if_neg h6, k_no, if_neg c2, Option.bind_some, Option.toList_some, List.cons_append, List.nil_append, if_true]
    rw [go]
    by_cases d1 : S.2 0 2 0 ≠ 0
    · have e : sp_power S k = (-5, S) := by unfold sp_power; rw [if_neg c1, if_pos d1]
      rw [e]
      refine ⟨h, pd, ?_, hs⟩
      simp only [r98, hv.g, mo_g, f8, Option.bind_some, if_neg d1]
    · have d1' : S.2 0 2 0 = 0 := Classical.byContradiction d1
      have e : sp_power S k = (1, sV S 0 3 0 (if k = -6 then 0 else k)) := by unfold sp_power; rw [if_neg c1, if_neg d1]
      rw [e]
      have v1 := hv.p 31 k
      refine ⟨_, pd, ?_, _, F, v1, ?_, ?_, by simpa [va_up] using hpd⟩
      · simp only [r98, hv.g, mo_g, f8, d1', Option.bind_some, if_true, hv.w 31 (by decide), mo_s]
      · obtain ⟨f1, f2, f3, f4, f5, f6, f7, f8, f9, f10⟩ := hf
        have hl : m_l (if k = -6 then 0 else k) = k := by
          unfold m_l
          by_cases h6 : k = -6
          · simp [h6]
          · have : ¬ k = 0 := by
              intro q
              exact c1 ⟨h6, Or.inl (by rw [q]; decide)⟩
            simp [h6, this]
        simp [m_f, va_up, sV_1, sV_2, f1, f2, f3, f4, f5, f6, f7, f8, f10, hl]
      · simpa [m_F, sV_1, sV_2] using hF
theorem k_reader (P : Nat × Nat) (hs : MS M n s mem pd h S) (hk : KI S c) (o : Int32) : ∃ h' pd', am_E P 104 0 [some (.ref M), some (.int o)] [] h = some (some (.int (sp_reader S o).1), h') ∧ MS M n s mem pd' h' (sp_reader S o).2 := by
  obtain ⟨f, F, hv, hf, hF, hpd⟩ := id hs
  obtain ⟨f1, f2, f3, f4, f5, f6, f7, f8, f9, f10⟩ := id hf
  have h3 := hk.1.1.1.2.2.1
  have kst := k_strange P hs o
  have z : ¬ (1 : Int32) = 0 := by decide
  cases hx : am_ix o (S.1 0 0 0) with
  | none =>
    have e : sp_reader S o = (-1, S) := by unfold sp_reader; rw [hx]
    rw [e]
    refine ⟨h, pd, ?_, hs⟩
    rw [if_pos (str_N (by omega) hx)] at kst
    simp only [r104, hv.c, if_true, kst, Option.bind_some, Option.toList_some, List.cons_append, List.nil_append, if_neg z]
  | some o' =>
    obtain ⟨s1, s2, s3⟩ := str_S (by omega) hx
    rw [if_neg s1] at kst
    subst s2
    have ho3 : o' < 3 := by omega
    have g := (hF.1 o' ho3).1
    have hsrt := (hk.1.2.2.2.2.2.2.2.2.2.1 o' s3).1
    by_cases c1 : S.2 1 o' 0 ≠ 0
    · have e : sp_reader S (nI o') = (-3, S) := by unfold sp_reader; rw [hx]; simp only; rw [if_pos c1]
      rw [e]
      refine ⟨h, pd, ?_, hs⟩
      have e1 : S.2 1 o' 0 = 1 := by
        rcases hsrt with q | q
        · exact absurd q c1
        · exact q
      simp only [r104, hv.c, if_true, kst, Option.bind_some, Option.toList_some, List.cons_append, List.nil_append, hv.g, mo_g, hv.ld 1 (by decide) (by decide) (q := o') (show _ < 3 from ho3), g, e1]
    · have c1' : S.2 1 o' 0 = 0 := Classical.byContradiction c1
      have e01 : ¬ (0 : Int32) = 1 := by decide
      have h4 := hk.1.2.2.2.2.2.2.2.2.2.2.1
      by_cases c2 : S.1 3 0 0 = 4
      · have e : sp_reader S (nI o') = (-4, S) := by unfold sp_reader; rw [hx]; simp only; rw [if_neg c1, if_pos c2]
        rw [e]
        refine ⟨h, pd, ?_, hs⟩
        have e4 : nI (S.1 3 0 0) = 4 := by rw [c2]; rfl
        simp only [r104, hv.c, if_true, kst, Option.bind_some, Option.toList_some, List.cons_append, List.nil_append, hv.g, mo_g, hv.ld 1 (by decide) (by decide) (q := o') (show _ < 3 from ho3), g, c1', if_neg e01, f3, e4]
      · have e : sp_reader S (nI o') = (nI (S.1 3 0 0), sN (sN (sN S 7 (S.1 3 0 0) 0 o') 8 (S.1 3 0 0) 0 0) 3 0 0 (S.1 3 0 0 + 1)) := by unfold sp_reader; rw [hx]; simp only; rw [if_neg c1, if_neg c2]
        rw [e]
        have e4 : ¬ nI (S.1 3 0 0) = 4 := fun q => c2 ((nI_inj (b := 4) (by omega) (by decide)).mp q)
        have v1 := hv.a 21 (by decide) (by decide) (S.1 3 0 0) (nI o')
        have v2 := v1.a 22 (by decide) (by decide) (S.1 3 0 0) 0
        have v3 := v2.p 22 (nI (S.1 3 0 0 + 1))
        have b1 : S.1 3 0 0 < 4 := by omega
        refine ⟨_, pd, ?_, _, _, v3, ?_, ?_, by simpa [va_up] using hpd⟩
        · simp only [r104, hv.c, if_true, kst, Option.bind_some, Option.toList_some, List.cons_append, List.nil_append, hv.g, mo_g, hv.ld 1 (by decide) (by decide) (q := o') (show _ < 3 from ho3), g, c1', if_neg e01, f3, if_neg e4, hv.st 21 (by decide) (by decide) (q := S.1 3 0 0) b1]
          simp only [r104, v1.g, mo_g, f3, Option.bind_some, v1.st 22 (by decide) (by decide) (q := S.1 3 0 0) b1]
          simp only [r104, v2.g, mo_g, f3, Option.bind_some, nI_1, v2.w 22 (by decide), mo_s]
          have e9 : nI (S.1 3 0 0 + 1) - 1 = nI (S.1 3 0 0) := nI_pred _
          simp only [r104, v3.g, mo_g, Option.bind_some, va_up_self, e9]
        · simp [m_f, va_up, sN_1, sN_2, f1, f2, f4, f5, f6, f7, f8, f9, f10]
        · obtain ⟨g1, g2, g3, g4, g5, g6, g7⟩ := hF
          refine ⟨?_, ?_, ?_, ?_, ?_, fun r hr => ?_, ?_⟩
          · simpa [va_up, sN_1, sN_2] using g1
          · simpa [va_up, sN_1, sN_2] using g2
          · simpa [va_up, sN_1, sN_2] using g3
          · simpa [va_up, sN_1, sN_2] using g4
          · simpa [va_up, sN_1, sN_2] using g5
          · by_cases hr2 : r = S.1 3 0 0
            · subst hr2
              have z0 : (0 : Int32) = nI 0 := rfl
              simp [va_up, upd, sN_1, ← z0]
            · have hr3 : r < S.1 3 0 0 := by simp [sN_1] at hr; omega
              simpa [va_up, upd, sN_1, hr2] using g6 r hr3
          · simpa [va_up, sN_1, sN_2] using g7
theorem k_read (P : Nat × Nat) (hs : MS M n s mem pd h S) (hk : KI S c) (hc : c < 100) (r x : Int32) : ∃ h' pd', am_E P 105 0 [some (.ref M), some (.int r), some (.int x), none] [] h = some (some (.int (sp_read S r x).1), h') ∧ MS M n s mem pd' h' (sp_read S r x).2 := by
  obtain ⟨f, F, hv, hf, hF, hpd⟩ := id hs
  obtain ⟨f1, f2, f3, f4, f5, f6, f7, f8, f9, f10⟩ := id hf
  obtain ⟨r4, rr⟩ := hk.1.2.2.2.2.2.2.2.2.2.2
  have h3 := hk.1.1.1.2.2.1
  have z : ¬ (1 : Int32) = 0 := by decide
  cases hx : am_ix r (S.1 3 0 0) with
  | none =>
    have e : sp_read S r x = (-1, S) := by unfold sp_read; rw [hx]
    rw [e]
    refine ⟨h, pd, ?_, hs⟩
    have := str_N (by omega) hx
    simp only [r105, hv.g, mo_g, f3, Option.bind_some, k_no, if_pos this, Option.toList_some, List.cons_append, List.nil_append, if_neg z]
  | some r' =>
    obtain ⟨s1, s2, s3⟩ := str_S (by omega) hx
    subst s2
    by_cases c1 : x < 1 ∨ 100 < x
    · have e : sp_read S (nI r') x = (-2, S) := by unfold sp_read; rw [hx]; simp only; rw [if_pos c1]
      rw [e]
      refine ⟨h, pd, ?_, hs⟩
      simp only [r105, hv.g, mo_g, f3, Option.bind_some, k_no, if_neg s1, if_pos c1, Option.toList_some, List.cons_append, List.nil_append, if_true, if_neg z]
    · have e : sp_read S (nI r') x = (nI (q_more S r' x.toNatClampNeg), sN S 8 r' 0 (S.1 8 r' 0 + q_more S r' x.toNatClampNeg)) := by unfold sp_read; rw [hx]; simp only; rw [if_neg c1]
      rw [e]
      obtain ⟨x1, x2, x3⟩ := rr r' s3
      obtain ⟨g21, g22⟩ := hF.2.2.2.2.2.1 r' s3
      have g13 := (hF.1 (S.1 7 r' 0) (by omega)).2.2.2.2.2
      have hnl := hk.1.1.1.lines (S.1 7 r' 0)
      have hnr := (hk.gv hc 0).2
      obtain ⟨y, hy, hyx⟩ : ∃ y : Nat, y ≤ 100 ∧ x = nI y := by
        obtain ⟨j, j1, j2⟩ := nI_of2 (M := 100) (n := 100) rfl (fun q => c1 (Or.inl (by
          rw [i_lt] at q ⊢
          have z0 : (0 : Int32).toInt = 0 := rfl
          have z1 : (1 : Int32).toInt = 1 := rfl
          omega))) (Int32.not_lt.mp (fun q => c1 (Or.inr q)))
        exact ⟨j, by omega, j2⟩
      have hcl : x.toNatClampNeg = y := by rw [hyx]; exact nI_clamp (by omega)
      have sub : nI (S.1 6 (S.1 7 r' 0) 0) - nI (S.1 8 r' 0) = nI (S.1 6 (S.1 7 r' 0) 0 - S.1 8 r' 0) := by
        have := nI_add (a := S.1 6 (S.1 7 r' 0) 0 - S.1 8 r' 0) (b := S.1 8 r' 0)
        rw [show S.1 6 (S.1 7 r' 0) 0 - S.1 8 r' 0 + S.1 8 r' 0 = S.1 6 (S.1 7 r' 0) 0 by omega] at this
        rw [← this, Int32.add_sub_cancel]
      have hsm : (if x < nI (S.1 6 (S.1 7 r' 0) 0 - S.1 8 r' 0) then x else nI (S.1 6 (S.1 7 r' 0) 0 - S.1 8 r' 0)) = nI (q_more S r' y) := by
        unfold q_more
        by_cases hlt : y < S.1 6 (S.1 7 r' 0) 0 - S.1 8 r' 0
        · have : x < nI (S.1 6 (S.1 7 r' 0) 0 - S.1 8 r' 0) := by rw [hyx]; exact nI_lt hlt (by omega)
          rw [if_pos this, if_pos hlt, hyx]
        · have : ¬ x < nI (S.1 6 (S.1 7 r' 0) 0 - S.1 8 r' 0) := by
            rw [hyx]
            exact fun q => hlt ((nI_ltI (by omega) (by omega)).mp q)
          rw [if_neg this, if_neg hlt]
      rw [hcl]
      have b1 : r' < 4 := by omega
      have b2 : S.1 7 r' 0 < 3 := by omega
      have v1 := hv.a 22 (by decide) (by decide) r' (nI (S.1 8 r' 0 + q_more S r' y))
      refine ⟨_, pd, ?_, f, _, v1, ?_, ?_, hpd⟩
      · simp only [r105, hv.g, mo_g, f3, Option.bind_some, k_no, if_neg s1, if_neg c1, Option.toList_some, List.cons_append, List.nil_append, if_true, hv.ld 21 (by decide) (by decide) (q := r') b1, g21, hv.ld 13 (by decide) (by decide) (q := S.1 7 r' 0) b2, g13, hv.ld 22 (by decide) (by decide) (q := r') b1, g22, sub, k_small, hsm, nI_add, hv.st 22 (by decide) (by decide) (q := r') b1]
      · exact ⟨f1, f2, f3, f4, f5, f6, f7, f8, f9, f10⟩
      · obtain ⟨g1, g2, g3, g4, g5, g6, g7⟩ := hF
        refine ⟨?_, ?_, ?_, ?_, ?_, fun q hq => ?_, ?_⟩
        · simpa [va_up, sN_1, sN_2] using g1
        · simpa [va_up, sN_1, sN_2] using g2
        · simpa [va_up, sN_1, sN_2] using g3
        · simpa [va_up, sN_1, sN_2] using g4
        · simpa [va_up, sN_1, sN_2] using g5
        · by_cases hq2 : q = r'
          · subst hq2
            simpa [va_up, upd, sN_1] using g21
          · have hq3 : q < S.1 3 0 0 := by simpa [sN_1] using hq
            simpa [va_up, upd, sN_1, hq2] using g6 q hq3
        · simpa [va_up, sN_1, sN_2] using g7
end MCa
