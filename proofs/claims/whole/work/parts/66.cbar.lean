/-! The class: makeBarrier. -/
def QB (o : Nat) (S T : sp) (d : Nat) : Prop := T.1 0 0 0 = S.1 0 0 0 ∧ T.1 2 0 0 = S.1 2 0 0 ∧ (∀ b, T.1 4 b 0 ≤ S.1 4 b 0) ∧ (∀ b, b ≠ o → T.1 5 b 0 = S.1 5 b 0) ∧ T.1 1 0 0 ≤ S.1 1 0 0 + d
theorem QB.trans {o d e : Nat} {S T U : sp} (h : QB o S T d) (g : QB o T U e) : QB o S U (d + e) := by
  obtain ⟨a1, a2, a3, a4, a5⟩ := h
  obtain ⟨b1, b2, b3, b4, b5⟩ := g
  exact ⟨by omega, by omega, fun b => Nat.le_trans (b3 b) (a3 b), fun b hb => (b4 b hb).trans (a4 b hb), by omega⟩
theorem QB.mono {o d e : Nat} {S T : sp} (h : QB o S T d) (hd : d ≤ e) : QB o S T e := by
  obtain ⟨a1, a2, a3, a4, a5⟩ := h
  exact ⟨a1, a2, a3, a4, by omega⟩
theorem QB.rec {o' : Nat} {S : sp} {k o p n v : Int32} : QB o' S (sp_rec S k o p n v).2 1 := by
  refine ⟨sr_N (by decide) (by decide), sr_N (by decide) (by decide), fun b => ?_, fun b _ => sr_N (by decide) (by decide), sr_nr.1⟩
  cases hc : (sp_rec S k o p n v).1 with
  | true => rw [sr_N4 (by decide) hc]; omega
  | false =>
    rw [(sr_F hc).2, (act_dn (sr_F hc).1).2 b]
    omega
theorem QB.pu {S : sp} {o p k : Nat} : QB o S (sp_pu S o p k) 0 := by
  unfold sp_pu
  refine ⟨?_, ?_, fun b => ?_, fun b hb => ?_, ?_⟩
  · split <;> simp [sN_1, sV_1]
  · split <;> simp [sN_1, sV_1]
  · split <;> simp [sN_1, sV_1]
  · split <;> simp [sN_1, sV_1, hb]
  · split <;> simp [sN_1, sV_1]
theorem QB.rows {o p : Nat} : ∀ (c k : Nat) (S : sp), QB o S (sp_rows o p c k S).2 c := by
  intro c
  induction c with
  | zero => intro k S; exact ⟨rfl, rfl, fun _ => Nat.le_refl _, fun _ _ => rfl, Nat.le_refl _⟩
  | succ c ih =>
    intro k S
    have hr : QB o S (sp_row S o p k).2 1 := by
      unfold sp_row
      split
      · exact (QB.trans QB.rec QB.pu).mono (by omega)
      · exact QB.rec
    unfold sp_rows
    split
    · exact (QB.trans hr (ih _ _)).mono (by omega)
    · exact hr.mono (by omega)
theorem QB.close {S : sp} {o p : Nat} {m : Int32} : QB o S (sp_close S o p m).2 1 := by
  unfold sp_close
  have := QB.rec (o' := o) (S := S) (k := 1) (o := nI o) (p := nI p) (n := m) (v := -6)
  split
  · obtain ⟨a1, a2, a3, a4, a5⟩ := this
    refine ⟨a1, a2, fun b => ?_, a4, a5⟩
    simp only [sN_1, sV_1]
    split
    · omega
    · simpa using a3 b
  · exact this
theorem QB.cls {S : sp} {o p c : Nat} {m : Int32} : QB o S (sp_cls o p m (sp_rows o p c 0 S)).2 (c + 1) := by
  unfold sp_cls
  split
  · exact QB.trans (QB.rows c 0 S) QB.close
  · exact (QB.rows c 0 S).mono (by omega)
theorem barL_S (m : Int32) (c o w : Nat) (S : sp) (h : S.1 4 o 0 ≠ 0) : sp_barL m (c + 1) o w S = if (sp_cls o (S.1 5 o 0) m (sp_rows o (S.1 5 o 0) (S.1 4 o 0) 0 S)).1 = true then sp_barL m c (o + 1) (w + S.1 4 o 0) (sp_cls o (S.1 5 o 0) m (sp_rows o (S.1 5 o 0) (S.1 4 o 0) 0 S)).2 else (none, (sp_cls o (S.1 5 o 0) m (sp_rows o (S.1 5 o 0) (S.1 4 o 0) 0 S)).2) := by
  conv => lhs; unfold sp_barL
  rw [if_neg h]
  unfold sp_cls
  by_cases h1 : (sp_rows o (S.1 5 o 0) (S.1 4 o 0) 0 S).1 = true
  · simp only [if_pos h1]
  · simp only [if_neg h1]
    simp
section CBr
variable {P : Nat × Nat} {fx : Nat → Prop} {mem : Nat → am_C}
theorem SO.x5 {ad : Nat → Nat → Nat → Nat} {S : sp} (v : Int32) : SO P ad ad S (sV S 0 5 0 v) (fun k i j => k = 7 ∧ i = 0 ∧ j = 0) := by
  intro k i j hl hN
  rcases k23 hl with rfl | rfl | rfl | rfl | rfl | rfl | rfl | rfl | rfl | rfl | rfl | rfl | rfl | rfl | rfl | rfl | rfl | rfl | rfl | rfl | rfl | rfl | rfl
  all_goals first
    | exact ⟨hl, rfl, fun c hc => hc⟩
    | exact ⟨hl, rfl, fun c hc => by refine ok22 ?_ ?_ ?_ ?_ hc <;> (intros; rfl)⟩
    | exact absurd ⟨rfl, hl.1, hl.2⟩ hN
theorem c_barL (hP : fx P.1) (m : Int32) : ∀ (c o w : Nat) (S : sp) (h : am_H) (ad : Nat → Nat → Nat → Nat) (K : Nat × Nat) (l4 l5 : Option Value), CW P fx mem K ad h S → o + c = S.1 0 0 0 → S.1 0 0 0 ≤ 3 → (∀ b, S.1 4 b 0 ≤ 20) → (∀ b, o ≤ b → b < 3 → S.1 5 b 0 < 1000) → S.1 1 0 0 + 30 * (c + 1) < 20000 → S.1 2 0 0 < 200 →
    ∃ h' ad', am_E P 63 17 [some (.ref (ad 0 0 0)), some (.int m), some (.int (nI w)), some (.int (nI o)), l4, l5] [] h = some (some (.int (match sp_barL m c o w S with | (none, _) => -5 | (some x, _) => nI x)), h') ∧ (∀ k i j, k ≠ 20 → ad' k i j = ad k i j) ∧ CW P fx mem (K.1 + 2 * c, K.2 + 2017 * c) ad' h' (match sp_barL m c o w S with | (none, T) => T | (some _, T) => sN (sV T 5 (T.1 2 0 0) 0 m) 2 0 0 (T.1 2 0 0 + 1)) := by
  intro c
  induction c with
  | zero =>
    intro o w S h ad K l4 l5 hv ho h3 h4 h5 h1 h2
    obtain ⟨h', e1, v1⟩ := c_badd hv h2 m
    refine ⟨h', ad, ?_, fun _ _ _ _ => rfl, v1⟩
    have c1 : nI (S.1 0 0 0) ≤ nI o := nI_le (by omega) (by omega)
    rw [hd63_17]
    simp only [r63, o9 hv.x, Option.bind_some, hv.szO, if_true, Option.toList, List.nil_append, List.cons_append, if_pos c1, cl_of hv.ba, e1]
    rfl
  | succ c ih =>
    intro o w S h ad K l4 l5 hv ho h3 h4 h5 h1 h2
    have ho1 : o < S.1 0 0 0 := by omega
    have c1 : ¬ nI (S.1 0 0 0) ≤ nI o := nI_ge ho1 (by omega)
    have h4o := h4 o
    by_cases hz : S.1 4 o 0 = 0
    · have er : sp_barL m (c + 1) o w S = sp_barL m c (o + 1) w S := by
        conv => lhs; unfold sp_barL
        rw [if_pos hz]
      rw [er]
      obtain ⟨h', ad', e1, e2, e3⟩ := ih (o + 1) w S h ad K (some (.ref (ad 9 o 0))) (some (.int (nI (S.1 4 o 0)))) hv (by omega) h3 h4 (fun b hb => h5 b (by omega)) (by omega) h2
      refine ⟨h', ad', ?_, e2, e3.kup (by show K.1 + 2 * c ≤ K.1 + 2 * (c + 1); omega) (by show K.2 + 2017 * c ≤ K.2 + 2017 * (c + 1); omega)⟩
      have c2 : nI (S.1 4 o 0) ≤ 0 := by rw [hz]; decide
      have e0 : nI w + nI (S.1 4 o 0) = nI w := by rw [hz, nI_add, Nat.add_zero]
      rw [← e1]
      conv => lhs; rw [hd63_17]
      simp only [r63, o9 hv.x, Option.bind_some, hv.szO, if_true, Option.toList, List.nil_append, List.cons_append, if_neg c1, hv.getO ho1 h3, o10 (hv.ou ho1), if_pos c2, e0, nI_1]
    · rw [barL_S m c o w S hz]
      have c2 : ¬ nI (S.1 4 o 0) ≤ 0 := nI_nle (by omega) (by omega)
      have c01 : ¬ (1 : Int32) = 0 := by decide
      have qb := QB.cls (S := S) (o := o) (p := S.1 5 o 0) (c := S.1 4 o 0) (m := m)
      obtain ⟨h1', ad1, e1, e2, v1⟩ := c_close hv hP h3 ho1 (by omega) h4o (h5 o (Nat.le_refl _) (by omega)) (by omega) m
      generalize sp_cls o (S.1 5 o 0) m (sp_rows o (S.1 5 o 0) (S.1 4 o 0) 0 S) = R at *
      obtain ⟨b, T⟩ := R
      obtain ⟨q0, q2, q4, q5, q1⟩ := qb
      simp only at e1 v1 q0 q2 q4 q5 q1 ⊢
      cases b with
      | true =>
        simp only [if_true] at e1 ⊢
        obtain ⟨h', ad', e3, e4, v2⟩ := ih (o + 1) (w + S.1 4 o 0) T h1' ad1 _ (some (.ref (ad 9 o 0))) (some (.int (nI (S.1 4 o 0)))) v1 (by omega) (by omega) (fun b => Nat.le_trans (q4 b) (h4 b)) (fun b hb hb3 => by rw [q5 b (by omega)]; exact h5 b (by omega) hb3) (by omega) (by omega)
        rw [e2 0 0 0 (by decide)] at e3
        refine ⟨h', ad', ?_, fun k i j hk => (e4 k i j hk).trans (e2 k i j hk), v2.kup (by show K.1 + 2 + 2 * c ≤ K.1 + 2 * (c + 1); omega) (by show K.2 + 2017 + 2017 * c ≤ K.2 + 2017 * (c + 1); omega)⟩
        rw [← e3]
        conv => lhs; rw [hd63_17]
        simp only [r63, o9 hv.x, Option.bind_some, hv.szO, if_true, Option.toList, List.nil_append, List.cons_append, if_neg c1, hv.getO ho1 h3, o10 (hv.ou ho1), if_neg c2, cl_of hv.x, e1, if_neg c01, nI_add, nI_1]
      | false =>
        simp only [Bool.false_eq_true, if_false] at e1 ⊢
        refine ⟨h1', ad1, ?_, e2, v1.kup (by show K.1 + 2 ≤ K.1 + 2 * (c + 1); omega) (by show K.2 + 2017 ≤ K.2 + 2017 * (c + 1); omega)⟩
        rw [hd63_17]
        simp only [r63, o9 hv.x, Option.bind_some, hv.szO, if_true, Option.toList, List.nil_append, List.cons_append, if_neg c1, hv.getO ho1 h3, o10 (hv.ou ho1), if_neg c2, cl_of hv.x, e1]
theorem c_bar {ad : Nat → Nat → Nat → Nat} {K : Nat × Nat} {h : am_H} {S : sp} (hv : CW P fx mem K ad h S) (hP : fx P.1) (h3 : S.1 0 0 0 ≤ 3) (h4 : ∀ b, S.1 4 b 0 ≤ 20) (h5 : ∀ b, b < 3 → S.1 5 b 0 < 1000) (h1 : S.1 1 0 0 < 19000) (h2 : S.1 2 0 0 < 200) (m : Int32) : ∃ h' ad', am_E P 63 0 [some (.ref (ad 0 0 0)), some (.int m), none, none, none, none] [] h = some (some (.int (sp_bar S m).1), h') ∧ (∀ k i j, k ≠ 20 → ad' k i j = ad k i j) ∧ CW P fx mem (K.1 + 6, K.2 + 6051) ad' h' (sp_bar S m).2 := by
  have v1 := hv.put 7 0 0 (fun _ => rfl) ⟨rfl, rfl⟩ (S' := sV S 0 5 0 (S.2 0 5 0 + 1)) (fun _ => SO.x5 _) (c := ac_O 1 [.ref (ad 8 0 0), .int (nI (S.1 2 0 0)), .int (S.2 0 5 0 + 1)]) (fun _ => rfl) rfl rfl
  obtain ⟨h', ad', e1, e2, v2⟩ := c_barL hP m (S.1 0 0 0) 0 0 (sV S 0 5 0 (S.2 0 5 0 + 1)) _ ad K none none v1 (Nat.zero_add _) h3 h4 (fun b _ hb => h5 b hb) (by show S.1 1 0 0 + 30 * (S.1 0 0 0 + 1) < 20000; omega) h2
  refine ⟨h', ad', ?_, e2, ?_⟩
  · have : (match sp_barL m (S.1 0 0 0) 0 0 (sV S 0 5 0 (S.2 0 5 0 + 1)) with | (none, _) => (-5 : Int32) | (some x, _) => nI x) = (sp_bar S m).1 := by
      unfold sp_bar
      split <;> rename_i e <;> rw [e]
    rw [this] at e1
    rw [← e1]
    simp only [r63, o9 hv.x, Option.bind_some, o3 hv.ba]
    rfl
  · have : (match sp_barL m (S.1 0 0 0) 0 0 (sV S 0 5 0 (S.2 0 5 0 + 1)) with | (none, T) => T | (some _, T) => sN (sV T 5 (T.1 2 0 0) 0 m) 2 0 0 (T.1 2 0 0 + 1)) = (sp_bar S m).2 := by
      unfold sp_bar
      split <;> rename_i e <;> rw [e]
    rw [this] at v2
    exact v2.kup (by show K.1 + 2 * S.1 0 0 0 ≤ K.1 + 6; omega) (by show K.2 + 2017 * S.1 0 0 0 ≤ K.2 + 6051; omega)
end CBr
