/-! The class: an output's open part is closed. -/
theorem sN_same (S : sp) {k i j v : Nat} (h : S.1 k i j = v) : sN S k i j v = S := by
  unfold sN u3
  refine Prod.ext (funext fun a => funext fun b => funext fun c => ?_) rfl
  show (if a = k ∧ b = i ∧ c = j then v else S.1 a b c) = S.1 a b c
  split
  · rename_i e; rw [e.1, e.2.1, e.2.2, h]
  · rfl
section CCl
variable {P : Nat × Nat} {fx : Nat → Prop} {mem : Nat → am_C} {K : Nat × Nat} {ad : Nat → Nat → Nat → Nat} {h : am_H} {S : sp}
theorem SO.n10 {o p v : Nat} : SO P ad ad S (sN S 10 o p v) (fun k i j => k = 20 ∧ i = o ∧ j = p) := by
  intro k i j hl hN
  rcases k23 hl with rfl | rfl | rfl | rfl | rfl | rfl | rfl | rfl | rfl | rfl | rfl | rfl | rfl | rfl | rfl | rfl | rfl | rfl | rfl | rfl | rfl | rfl | rfl
  all_goals first
    | exact ⟨hl, rfl, fun c hc => hc⟩
    | exact ⟨hl, rfl, fun c hc => by refine ok22 ?_ ?_ ?_ ?_ hc <;> (intros; rfl)⟩
    | skip
  have hij : ¬ (i = o ∧ j = p) := fun e => hN ⟨rfl, e⟩
  refine ⟨hl, rfl, fun c hc => ?_⟩
  obtain ⟨x, y, hc⟩ := hc
  refine ⟨x, y, ?_⟩
  simpa only [sN_1, sN_2, hij, and_false, if_false] using hc
theorem SO.n11 {o p v : Nat} : SO P ad ad S (sN S 11 o p v) (fun k i j => k = 20 ∧ i = o ∧ j = p) := by
  intro k i j hl hN
  rcases k23 hl with rfl | rfl | rfl | rfl | rfl | rfl | rfl | rfl | rfl | rfl | rfl | rfl | rfl | rfl | rfl | rfl | rfl | rfl | rfl | rfl | rfl | rfl | rfl
  all_goals first
    | exact ⟨hl, rfl, fun c hc => hc⟩
    | exact ⟨hl, rfl, fun c hc => by refine ok22 ?_ ?_ ?_ ?_ hc <;> (intros; rfl)⟩
    | skip
  have hij : ¬ (i = o ∧ j = p) := fun e => hN ⟨rfl, e⟩
  refine ⟨hl, rfl, fun c hc => ?_⟩
  obtain ⟨x, y, hc⟩ := hc
  refine ⟨x, y, ?_⟩
  simpa only [sN_1, sN_2, hij, and_false, if_false] using hc
theorem SO.v13 {o p v : Nat} {m : Int32} : SO P ad ad S (sN (sV S 13 o p m) 11 o p v) (fun k i j => k = 20 ∧ i = o ∧ j = p) := by
  intro k i j hl hN
  rcases k23 hl with rfl | rfl | rfl | rfl | rfl | rfl | rfl | rfl | rfl | rfl | rfl | rfl | rfl | rfl | rfl | rfl | rfl | rfl | rfl | rfl | rfl | rfl | rfl
  all_goals first
    | exact ⟨hl, rfl, fun c hc => hc⟩
    | exact ⟨hl, rfl, fun c hc => by refine ok22 ?_ ?_ ?_ ?_ hc <;> (intros; rfl)⟩
    | skip
  have hij : ¬ (i = o ∧ j = p) := fun e => hN ⟨rfl, e⟩
  refine ⟨hl, rfl, fun c hc => ?_⟩
  obtain ⟨x, y, hc⟩ := hc
  refine ⟨x, y, ?_⟩
  simpa only [sN_1, sN_2, sV_1, sV_2, hij, and_false, if_false] using hc
/-- what becomes of an output at a barrier -/
def sp_cls (o p : Nat) (m : Int32) (q : Bool × sp) : Bool × sp := if q.1 = true then sp_close q.2 o p m else (false, q.2)
theorem c_clend (hv : CW P fx mem K ad h S) (h3 : S.1 0 0 0 ≤ 3) {o p : Nat} (ho : o < S.1 0 0 0) (hp : p < S.1 5 o 0) (hn : S.1 1 0 0 < 20000) (m : Int32) (l4 : Option Value) : ∃ h', am_E P 64 103 [some (.ref (ad 0 0 0)), some (.ref (ad 9 o 0)), some (.int m), some (.ref (ad 20 o p)), l4] [] h = some (some (.int (if (sp_close S o p m).1 = true then 1 else 0)), h') ∧ CW P fx mem K ad h' (sp_close S o p m).2 := by
  obtain ⟨x, y, hpt⟩ := hv.pt ho hp
  obtain ⟨h1, e1, v1⟩ := c_rec hv h3 hn 1 (nI o) (nI p) m (-6)
  unfold sp_close
  have e01 : ¬ (1 : Int32) = 0 := by decide
  by_cases ht : (sp_rec S 1 (nI o) (nI p) m (-6)).1 = true
  · rw [if_pos ht] at e1 ⊢
    have ho1 : o < (sp_rec S 1 (nI o) (nI p) m (-6)).2.1 0 0 0 := by rw [sr_N (by decide) (by decide)]; exact ho
    have hp1 : p < (sp_rec S 1 (nI o) (nI p) m (-6)).2.1 5 o 0 := by rw [sr_N (by decide) (by decide)]; exact hp
    obtain ⟨x1, y1, hpt1⟩ := v1.pt ho1 hp1
    generalize (sp_rec S 1 (nI o) (nI p) m (-6)).2 = T at *
    have v2 := v1.put 20 o p (fun _ => rfl) ⟨ho1, hp1⟩ (S' := sN (sV T 13 o p m) 11 o p 1) (fun _ => SO.v13) (c := ac_O 5 [.int (nI p), .int (nI (T.1 9 o p)), .int (nI (T.1 10 o p)), .int m, .int 1, .int x1, .int y1]) (fun ae => ⟨x1, y1, by simp [sN_1, sN_2, sV_1, sV_2]; rfl⟩) rfl rfl
    have v3 := v2.put 9 o 0 (fun _ => rfl) ⟨ho1, rfl⟩ (S' := sN (sN (sV T 13 o p m) 11 o p 1) 4 o 0 0) (fun _ => SO.n4 (Nat.zero_le _)) (c := ac_O 4 [.int (nI o), .int (T.2 1 o 0), .ref (ad 10 o 0), .ref (ad 11 o 0), .int 0, .ref (ad 12 o 0), .int (T.2 1 o 1), .int (T.2 1 o 2), .ref (ad 14 o 0), .ref (ad 16 o 0)]) (fun ae => by
      show _ = ac_O 4 [.int (nI o), .int (T.2 1 o 0), .ref (ad 10 o 0), .ref (ad 11 o 0), .int (nI ((sN (sN (sV T 13 o p m) 11 o p 1) 4 o 0 0).1 4 o 0)), .ref (ad 12 o 0), .int (T.2 1 o 1), .int (T.2 1 o 2), .ref (ad 14 o 0), .ref (ad 16 o 0)]
      rw [sN_1, if_pos ⟨rfl, rfl, rfl⟩]; rfl) rfl rfl
    refine ⟨_, ?_, v3⟩
    have ho2 : (ah_put h1 (ad 20 o p) (ac_O 5 [.int (nI p), .int (nI (T.1 9 o p)), .int (nI (T.1 10 o p)), .int m, .int 1, .int x1, .int y1])).2.2 (ad 9 o 0) = ac_O 4 [.int (nI o), .int (T.2 1 o 0), .ref (ad 10 o 0), .ref (ad 11 o 0), .int (nI (T.1 4 o 0)), .ref (ad 12 o 0), .int (T.2 1 o 1), .int (T.2 1 o 2), .ref (ad 14 o 0), .ref (ad 16 o 0)] := v2.ou ho1
    simp only [r64, o10 (hv.ou ho), Option.bind_some, o7 hpt, cl_of hv.x, if_true, e1, Option.toList, List.nil_append, List.cons_append, if_neg e01, o7 hpt1, o7 (ah_same h1 (ad 20 o p) _), ah_put2, o10 ho2, or_true]
  · rw [if_neg ht] at e1 ⊢
    refine ⟨h1, ?_, v1⟩
    simp only [r64, o10 (hv.ou ho), Option.bind_some, o7 hpt, cl_of hv.x, if_true, e1, Option.toList, List.nil_append, List.cons_append, true_or]
    simp
/-- from the second row on -/
theorem c_rows {o p n : Nat} (m : Int32) (hn20 : n ≤ 20) : ∀ (c k : Nat) (S : sp) (h : am_H), 1 ≤ k → k + c = n → CW P fx mem K ad h S → S.1 0 0 0 ≤ 3 → o < S.1 0 0 0 → S.1 4 o 0 = n → S.1 5 o 0 = p + 1 → S.1 10 o p = k → S.1 1 0 0 + c < 20000 →
    ∃ h', am_E P 64 25 [some (.ref (ad 0 0 0)), some (.ref (ad 9 o 0)), some (.int m), some (.ref (ad 20 o p)), some (.int (nI k))] [] h = some (some (.int (if (sp_cls o p m (sp_rows o p c k S)).1 = true then 1 else 0)), h') ∧ CW P fx mem K ad h' (sp_cls o p m (sp_rows o p c k S)).2 := by
  intro c
  induction c with
  | zero =>
    intro k S h hk hkc hv h3 ho h4 h5 h10 hn
    obtain ⟨h', e1, e2⟩ := c_clend hv h3 ho (p := p) (by omega) hn m (some (.int (nI k)))
    have er : sp_cls o p m (sp_rows o p 0 k S) = sp_close S o p m := by unfold sp_cls sp_rows; rfl
    rw [er]
    refine ⟨h', ?_, e2⟩
    have c1 : nI (S.1 4 o 0) ≤ nI k := nI_le (by omega) (by omega)
    rw [← e1, hd64_25]
    simp only [r64, o10 (hv.ou ho), Option.bind_some, if_pos c1]
  | succ c ih =>
    intro k S h hk hkc hv h3 ho h4 h5 h10 hn
    have hp : p < S.1 5 o 0 := by omega
    obtain ⟨x, y, hpt⟩ := hv.pt ho hp
    obtain ⟨fk, hk1, hk2⟩ := hv.ok ho
    obtain ⟨fv, hv1, hv2⟩ := hv.ov ho
    obtain ⟨h1, e1, v1⟩ := c_rec hv h3 (by omega) 0 (nI o) (nI p) (S.2 2 o k) (S.2 3 o k)
    have c1 : ¬ nI (S.1 4 o 0) ≤ nI k := nI_ge (by omega) (by omega)
    have c2 : ¬ (20 : Int32) ≤ nI k := nI_ge (b := 20) (by omega) (by decide)
    have c3 : ¬ nI k = 0 := nI_ne0 (by omega) (by omega)
    have e01 : ¬ (1 : Int32) = 0 := by decide
    have lk : am_iald h (ad 10 o 0) (nI k) = some (S.2 2 o k) := by rw [iald_I hk1 (show k < 20 by omega) (by decide), hk2 k (by omega)]
    have lw : am_iald h (ad 11 o 0) (nI k) = some (S.2 3 o k) := by rw [iald_I hv1 (show k < 20 by omega) (by decide), hv2 k (by omega)]
    by_cases ht : (sp_rec S 0 (nI o) (nI p) (S.2 2 o k) (S.2 3 o k)).1 = true
    · have hrow : sp_row S o p k = (true, sN (sp_rec S 0 (nI o) (nI p) (S.2 2 o k) (S.2 3 o k)).2 10 o p (k + 1)) := by
        unfold sp_row
        rw [if_pos ht]
        unfold sp_pu
        rw [if_neg (by omega), sN_same _ (k := 5)]
        rw [sN_1, if_neg (by omega), sr_N (by decide) (by decide)]
        exact h5
      have er : sp_rows o p (c + 1) k S = sp_rows o p c (k + 1) (sN (sp_rec S 0 (nI o) (nI p) (S.2 2 o k) (S.2 3 o k)).2 10 o p (k + 1)) := by
        conv => lhs; unfold sp_rows
        rw [hrow]
        rfl
      rw [er]
      rw [if_pos ht] at e1
      have q0 : (sp_rec S 0 (nI o) (nI p) (S.2 2 o k) (S.2 3 o k)).2.1 0 0 0 = S.1 0 0 0 := sr_N (by decide) (by decide)
      have q4 : (sp_rec S 0 (nI o) (nI p) (S.2 2 o k) (S.2 3 o k)).2.1 4 o 0 = S.1 4 o 0 := sr_N4 (by decide) ht
      have q5 : (sp_rec S 0 (nI o) (nI p) (S.2 2 o k) (S.2 3 o k)).2.1 5 o 0 = S.1 5 o 0 := sr_N (by decide) (by decide)
      have q10 : (sp_rec S 0 (nI o) (nI p) (S.2 2 o k) (S.2 3 o k)).2.1 10 o p = S.1 10 o p := sr_N (by decide) (by decide)
      have q1 := (sr_nr (S := S) (k := 0) (o := nI o) (p := nI p) (n := S.2 2 o k) (v := S.2 3 o k)).1
      have ho1 : o < (sp_rec S 0 (nI o) (nI p) (S.2 2 o k) (S.2 3 o k)).2.1 0 0 0 := by rw [q0]; exact ho
      have hp1 : p < (sp_rec S 0 (nI o) (nI p) (S.2 2 o k) (S.2 3 o k)).2.1 5 o 0 := by rw [q5]; exact hp
      obtain ⟨x1, y1, hpt1⟩ := v1.pt ho1 hp1
      generalize (sp_rec S 0 (nI o) (nI p) (S.2 2 o k) (S.2 3 o k)).2 = T at *
      have v2 := v1.put 20 o p (fun _ => rfl) ⟨ho1, hp1⟩ (S' := sN T 10 o p (k + 1)) (fun _ => SO.n10) (c := ac_O 5 [.int (nI p), .int (nI (T.1 9 o p)), .int (nI (k + 1)), .int (if T.1 11 o p = 0 then -6 else T.2 13 o p), .int (nI (T.1 11 o p)), .int x1, .int y1]) (fun ae => ⟨x1, y1, by simp [sN_1, sN_2]⟩) rfl rfl
      obtain ⟨h2, e2, v3⟩ := ih (k + 1) (sN T 10 o p (k + 1)) _ (by omega) (by omega) v2 (by show T.1 0 0 0 ≤ 3; omega) ho1 (by show T.1 4 o 0 = n; omega) (by show T.1 5 o 0 = p + 1; omega) (by rw [sN_1, if_pos ⟨rfl, rfl, rfl⟩]) (by show T.1 1 0 0 + c < 20000; omega)
      refine ⟨h2, ?_, v3⟩
      rw [q10, h10] at hpt1
      rw [hd64_25]
      simp only [r64, o10 (hv.ou ho), Option.bind_some, if_neg c1, if_neg c2, o7 hpt, lk, lw, cl_of hv.x, if_true, e1, Option.toList, List.nil_append, List.cons_append, if_neg e01, if_neg c3, o7 hpt1, nI_1]
      exact e2
    · have hrow : sp_row S o p k = (false, (sp_rec S 0 (nI o) (nI p) (S.2 2 o k) (S.2 3 o k)).2) := by
        unfold sp_row
        rw [if_neg ht]
      have er : sp_cls o p m (sp_rows o p (c + 1) k S) = (false, (sp_rec S 0 (nI o) (nI p) (S.2 2 o k) (S.2 3 o k)).2) := by
        unfold sp_rows
        rw [hrow]
        rfl
      rw [er]
      rw [if_neg ht] at e1
      refine ⟨h1, ?_, v1⟩
      rw [hd64_25]
      simp only [r64, o10 (hv.ou ho), Option.bind_some, if_neg c1, if_neg c2, o7 hpt, lk, lw, cl_of hv.x, if_true, e1, Option.toList, List.nil_append, List.cons_append, true_or]
      simp
end CCl
