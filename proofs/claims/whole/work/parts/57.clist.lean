/-! The class: a list takes one more. -/
theorem c_sh1 : ∀ n, n < 1024 → nI n >>> ((1 : Int32) &&& 31) = nI (n / 2) := by decide +kernel
theorem copy_R {h : am_H} {a b na nb k : Nat} {f g : Nat → Option Nat} (hab : a ≠ b) (ha : h.2.2 a = ac_R na f) (hb : h.2.2 b = ac_R nb g) (hk : k ≤ na) (hk2 : k ≤ nb) (hl : k < 2 ^ 31) : am_copy h a b (nI k) = some (ah_put h b (ac_R nb (va_cpy f g 0 0 k))) := by
  have e : (nI k).toInt = (k : Int) := nI_toInt hl
  have c : (nI k).toNatClampNeg = k := nI_clamp hl
  unfold am_copy
  rw [if_neg (by rw [e]; omega), ha]
  simp only [hb, e, c]
  rw [if_pos (by omega)]
theorem copy_I {h : am_H} {a b na nb k : Nat} {f g : Nat → Int32} (hab : a ≠ b) (ha : h.2.2 a = ac_I na f) (hb : h.2.2 b = ac_I nb g) (hk : k ≤ na) (hk2 : k ≤ nb) (hl : k < 2 ^ 31) : am_copy h a b (nI k) = some (ah_put h b (ac_I nb (va_cpy f g 0 0 k))) := by
  have e : (nI k).toInt = (k : Int) := nI_toInt hl
  have c : (nI k).toNatClampNeg = k := nI_clamp hl
  unfold am_copy
  rw [if_neg (by rw [e]; omega), ha]
  simp only [hb, e, c]
  rw [if_pos (by omega)]
theorem nI_room {n : Nat} (hn : n ≤ 1000000) : ¬ ((nI n).toInt < 0 ∨ 1000000 < (nI n).toInt) := by
  rw [nI_toInt (show n < 2 ^ 31 by omega)]
  omega
/-- Arrays.copyOf of references -/
theorem c_cpR (P : Nat × Nat) {h : am_H} {e n m : Nat} {g : Nat → Option Nat} (he : h.2.2 e = ac_R n g) (hlt : e < h.1) (hm : n ≤ m) (hm2 : m ≤ 1000000) : am_E P 124 0 [some (.ref e), some (.int (nI m))] [] h = some (some (.ref h.1), ah_put (ah_new h m (ac_R m (fun _ => none))) h.1 (ac_R m (va_cpy g (fun _ => none) 0 0 n))) := by
  have he' : (ah_new h m (ac_R m (fun _ => none))).2.2 e = ac_R n g := by rw [an_ne (by omega)]; exact he
  have c1 : (if nI m < nI n then nI m else nI n) = nI n := if_neg (nI_nlt hm (by omega))
  have hcp := copy_R (h := ah_new h m (ac_R m (fun _ => none))) (a := e) (b := h.1) (k := n) (by omega) he' (an_same h m _) (Nat.le_refl n) hm (by omega)
  simp only [r124, isR_of he, if_true, r125, if_neg (nI_room hm2), nI_clamp (show m < 2 ^ 31 by omega), alen_R he', c_min, Option.bind_some, Option.toList, List.nil_append, List.cons_append, c1, hcp]
/-- newLength -/
theorem c_newl (P : Nat × Nat) (h : am_H) {n : Nat} (h0 : 0 < n) (hn : n < 1000) : am_E P 128 0 [some (.int (nI n)), some (.int 1), some (.int (nI (n / 2))), none] [] h = some (some (.int (nI (n + (if 1 < n / 2 then n / 2 else 1)))), h) := by
  have e1 : (if (1 : Int32) < nI (n / 2) then nI (n / 2) else 1) = nI (if 1 < n / 2 then n / 2 else 1) := by
    by_cases hc : 1 < n / 2
    · rw [if_pos hc, if_pos (show (1 : Int32) < nI (n / 2) from nI_lt (a := 1) hc (by omega))]
    · rw [if_neg hc, if_neg (show ¬ (1 : Int32) < nI (n / 2) from nI_nlt (b := n / 2) (a := 1) (by omega) (by decide))]
      rfl
  have b : (if 1 < n / 2 then n / 2 else 1) < 2000 := by split <;> omega
  generalize (if 1 < n / 2 then n / 2 else 1) = k at *
  have c1 : ¬ nI (n + k) ≤ 0 := nI_nle (by omega) (by omega)
  have c2 : ¬ (2147483639 : Int32) < nI (n + k) := nI_nlt (b := 2147483639) (a := n + k) |> fun _ => by
    intro hlt
    rw [i_lt, nI_toInt (by omega)] at hlt
    have : (2147483639 : Int32).toInt = 2147483639 := rfl
    omega
  simp only [r128, c_max, e1, Option.bind_some, Option.toList, List.nil_append, List.cons_append, nI_add, if_neg c1, if_neg c2]
/-- a full list grows -/
theorem c_grow (P : Nat × Nat) {h : am_H} {l e n : Nat} {mc : Int32} {g : Nat → Option Nat} (hc : h.2.2 l = ac_O 0 [.int mc, .ref e, .int (nI n)]) (hl : l < h.1) (he : e < h.1)
    (hcase : (n = 0 ∧ e = P.1 ∧ h.2.2 e = ac_E) ∨ (0 < n ∧ n < 1000 ∧ h.2.2 e = ac_R n g)) :
    ∃ h' cap' g', am_E P 117 0 [some (.ref l)] [] h = some (some (.ref h.1), h') ∧ h'.2.2 l = ac_O 0 [.int mc, .ref h.1, .int (nI n)] ∧ h'.2.2 h.1 = ac_R cap' g' ∧ n < cap' ∧ cap' ≤ 2 * n + 10 ∧ (∀ i, i < n → g' i = g i) ∧ h'.1 = h.1 + 1 ∧ h'.2.1 ≤ h.2.1 + (2 * n + 10) ∧ (∀ a, a ≠ l → a ≠ h.1 → h'.2.2 a = h.2.2 a) := by
  rcases hcase with ⟨rfl, rfl, hE⟩ | ⟨h0, hn, hR⟩
  · have hc' : (ah_new h 10 (ac_R 10 (fun _ => none))).2.2 l = ac_O 0 [.int mc, .ref P.1, .int (nI 0)] := by rw [an_ne (by omega)]; exact hc
    refine ⟨ah_put (ah_new h 10 (ac_R 10 (fun _ => none))) l (ac_O 0 [.int mc, .ref h.1, .int (nI 0)]), 10, fun _ => none, ?_, ah_same _ _ _, ?_, by decide, by decide, fun i hi => absurd hi (Nat.not_lt_zero i), rfl, ?_, fun a h1 h2 => ?_⟩
    · have c1 : ¬ (0 : Int32) < nI 0 := by decide
      have c2 : (if (10 : Int32) < nI 0 + 1 then nI 0 + 1 else 10) = nI 10 := by decide
      have c3 := nI_room (n := 10) (by decide)
      have c4 : (nI 10).toNatClampNeg = 10 := by decide
      simp only [r117, o3 hc, Option.bind_some, if_true, r116, alen_E hE, if_neg c1, c_max, c2, Option.toList, List.nil_append, List.cons_append, if_neg c3, c4, o3 hc']
    · rw [ah_ne (by omega)]; exact an_same _ _ _
    · show h.2.1 + 10 ≤ _; omega
    · rw [ah_ne h1, an_ne h2]
  · have b : (if 1 < n / 2 then n / 2 else 1) ≤ n := by split <;> omega
    have b0 : 0 < (if 1 < n / 2 then n / 2 else 1) := by split <;> omega
    have hnl := c_newl P h h0 hn
    generalize (if 1 < n / 2 then n / 2 else 1) = k at *
    have hcp := c_cpR P (m := n + k) hR he (by omega) (by omega)
    have hc' : (ah_put (ah_new h (n + k) (ac_R (n + k) (fun _ => none))) h.1 (ac_R (n + k) (va_cpy g (fun _ => none) 0 0 n))).2.2 l = ac_O 0 [.int mc, .ref e, .int (nI n)] := by rw [ah_ne (by omega), an_ne (by omega)]; exact hc
    refine ⟨ah_put (ah_put (ah_new h (n + k) (ac_R (n + k) (fun _ => none))) h.1 (ac_R (n + k) (va_cpy g (fun _ => none) 0 0 n))) l (ac_O 0 [.int mc, .ref h.1, .int (nI n)]), n + k, _, ?_, ah_same _ _ _, by rw [ah_ne (by omega)]; exact ah_same _ _ _, by omega, by omega, fun i hi => ?_, rfl, ?_, fun a h1 h2 => ?_⟩
    · have c1 : (0 : Int32) < nI n := nI_lt (a := 0) h0 (by omega)
      have c2 : nI n + 1 - nI n = 1 := by
        rw [Int32.add_comm, Int32.add_sub_cancel]
      simp only [r117, o3 hc, Option.bind_some, if_true, r116, alen_R hR, if_pos c1, c2, c_sh1 n (by omega), hnl, Option.toList, List.nil_append, List.cons_append, hcp, o3 hc']
    · simp [va_cpy, hi]
    · show h.2.1 + (n + k) ≤ _; omega
    · rw [ah_ne h1, ah_ne h2, an_ne h2]
/-- a list takes one more: in its array, or in a new one -/
theorem c_add (P : Nat × Nat) {h : am_H} {l e n cap v ci : Nat} {mc : Int32} {g : Nat → Option Nat} {fs : List Value} (hc : h.2.2 l = ac_O 0 [.int mc, .ref e, .int (nI n)]) (hl : l < h.1) (he : e < h.1) (hle : l ≠ e) (hv : h.2.2 v = ac_O ci fs) (hci : ci ≠ 0) (hvh : v < h.1) (hvl : v ≠ l) (hn : n < 1000)
    (hcase : (n = 0 ∧ e = P.1 ∧ h.2.2 e = ac_E) ∨ (0 < n ∧ n ≤ cap ∧ cap < 100000 ∧ h.2.2 e = ac_R cap g)) :
    ∃ (h' : am_H) (e' cap' : Nat) (g' : Nat → Option Nat) (mc' : Int32), am_E P 122 0 [some (.ref l), some (.ref v)] [] h = some (some (.int 1), h') ∧ h'.2.2 l = ac_O 0 [.int mc', .ref e', .int (nI (n + 1))] ∧ h'.2.2 e' = ac_R cap' g' ∧ n + 1 ≤ cap' ∧ cap' < 100000 ∧ (∀ i, i < n → g' i = g i) ∧ g' n = some v ∧ ((e' = e ∧ 0 < n ∧ h'.1 = h.1 ∧ h'.2.1 = h.2.1) ∨ (e' = h.1 ∧ h'.1 = h.1 + 1 ∧ h'.2.1 ≤ h.2.1 + (2 * n + 10))) ∧ (∀ a, a ≠ l → a ≠ e' → h'.2.2 a = h.2.2 a) := by
  have hvc : ∀ x, (ah_put h l x).2.2 v = ac_O ci fs := fun x => by rw [ah_ne hvl]; exact hv
  have hc1 : (ah_put h l (ac_O 0 [.int (mc + 1), .ref e, .int (nI n)])).2.2 l = ac_O 0 [.int (mc + 1), .ref e, .int (nI n)] := ah_same _ _ _
  have hee : (ah_put h l (ac_O 0 [.int (mc + 1), .ref e, .int (nI n)])).2.2 e = h.2.2 e := ah_ne (Ne.symm hle)
  have hv1 := hvc (ac_O 0 [.int (mc + 1), .ref e, .int (nI n)])
  by_cases hfull : n = 0 ∨ n = cap
  · have hcg : (n = 0 ∧ e = P.1 ∧ (ah_put h l (ac_O 0 [.int (mc + 1), .ref e, .int (nI n)])).2.2 e = ac_E) ∨ (0 < n ∧ n < 1000 ∧ (ah_put h l (ac_O 0 [.int (mc + 1), .ref e, .int (nI n)])).2.2 e = ac_R n g) := by
      rw [hee]
      rcases hcase with ⟨a1, a2, a3⟩ | ⟨a1, a2, a3, a4⟩
      · exact Or.inl ⟨a1, a2, a3⟩
      · right
        have : n = cap := by omega
        exact ⟨a1, hn, by rw [this]; exact a4⟩
    obtain ⟨h', cap', g', e1, e2, e3, e4, e5, e6, e7, e8, e9⟩ := c_grow P hc1 hl he hcg
    simp only [ah_p1, ah_p2] at e1 e2 e3 e7 e8 e9
    have hv2 : h'.2.2 v = ac_O ci fs := by rw [e9 v hvl (show v ≠ h.1 by omega)]; exact hv1
    have hast := aast_R (k := n) e3 hv2 hci e4 (by omega)
    have e2' : (ah_put h' h.1 (ac_R cap' (va_up g' n (some v)))).2.2 l = ac_O 0 [.int (mc + 1), .ref h.1, .int (nI n)] := by rw [ah_ne (by omega)]; exact e2
    refine ⟨ah_put (ah_put h' h.1 (ac_R cap' (va_up g' n (some v)))) l (ac_O 0 [.int (mc + 1), .ref h.1, .int (nI (n + 1))]), h.1, cap', va_up g' n (some v), mc + 1, ?_, ah_same _ _ _, by rw [ah_ne (by omega)]; exact ah_same _ _ _, by omega, by omega, fun i hi => ?_, va_up_self _ _ _, Or.inr ⟨rfl, e7, e8⟩, fun a h1 h2 => ?_⟩
    · have hal : am_alen (ah_put h l (ac_O 0 [.int (mc + 1), .ref e, .int (nI n)])) e = some (nI n) := by
        rcases hcg with ⟨a1, a2, a3⟩ | ⟨a1, a2, a3⟩
        · rw [alen_E a3, a1]
        · exact alen_R a3
      simp only [r122, o3 hc, o3 hc1, Option.bind_some, if_true, r121, hal, e1, Option.toList, List.nil_append, List.cons_append, hast, o3 e2', nI_1, or_true]
    · rw [va_up_ne _ _ (by omega)]; exact e6 i hi
    · rw [ah_ne h1, ah_ne h2, e9 a h1 h2, ah_ne h1]
  · rcases hcase with ⟨a1, a2, a3⟩ | ⟨a1, a2, a3, a4⟩
    · exact absurd (Or.inl a1) hfull
    · have a4' : (ah_put h l (ac_O 0 [.int (mc + 1), .ref e, .int (nI n)])).2.2 e = ac_R cap g := by rw [hee]; exact a4
      have hast := aast_R (k := n) a4' hv1 hci (by omega) (by omega)
      have hc2 : (ah_put (ah_put h l (ac_O 0 [.int (mc + 1), .ref e, .int (nI n)])) e (ac_R cap (va_up g n (some v)))).2.2 l = ac_O 0 [.int (mc + 1), .ref e, .int (nI n)] := by rw [ah_ne hle]; exact hc1
      refine ⟨ah_put (ah_put (ah_put h l (ac_O 0 [.int (mc + 1), .ref e, .int (nI n)])) e (ac_R cap (va_up g n (some v)))) l (ac_O 0 [.int (mc + 1), .ref e, .int (nI (n + 1))]), e, cap, va_up g n (some v), mc + 1, ?_, ah_same _ _ _, by rw [ah_ne (Ne.symm hle)]; exact ah_same _ _ _, by omega, a3, fun i hi => va_up_ne _ _ (by omega), va_up_self _ _ _, Or.inl ⟨rfl, a1, rfl, rfl⟩, fun a h1 h2 => ?_⟩
      · have c1 : ¬ nI n = nI cap := fun q => by
          rw [nI_eq (by omega) (by omega)] at q
          exact hfull (Or.inr q)
        simp only [r122, o3 hc, o3 hc1, Option.bind_some, if_true, r121, alen_R a4', if_neg c1, hast, o3 hc2, nI_1, Option.toList, List.nil_append, or_true]
      · rw [ah_ne h1, ah_ne h2, ah_ne h1]
