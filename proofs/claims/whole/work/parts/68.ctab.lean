/-! The class: a table takes a row; rows of a part come. -/
theorem q_keys_up {S S' : sp} {o k : Nat} (hk : ∀ i, i ≠ k → S'.2 10 o i = S.2 10 o i) (hn : S'.2 10 o k ≠ -6) : ∀ n, q_keys S' o n = q_keys S o n + (if k < n ∧ S.2 10 o k = -6 then 1 else 0) := by
  intro n
  induction n with
  | zero => simp [q_keys]
  | succ n ih =>
    unfold q_keys
    rw [ih]
    by_cases hkn : n = k
    · subst hkn
      simp only [Nat.lt_irrefl, false_and, if_false, if_neg hn, Nat.lt_succ_self, true_and, Nat.add_zero]
      by_cases h6 : S.2 10 o n = -6
      · simp [h6]
      · simp [h6]
    · rw [hk n hkn]
      by_cases h6 : S.2 10 o k = -6
      · by_cases hlt : k < n
        · have : k < n + 1 := by omega
          simp only [hlt, this, h6, and_self, if_true]
          omega
        · have : ¬ k < n + 1 := by omega
          simp only [hlt, this, false_and, if_false]
          omega
      · simp only [h6, and_false, if_false]
        omega
section CTb
variable {P : Nat × Nat} {fx : Nat → Prop} {mem : Nat → am_C} {K : Nat × Nat} {ad : Nat → Nat → Nat → Nat} {h : am_H} {S : sp}
def sp_ta (S : sp) (o k : Nat) (p l v : Int32) : sp := sV (sV (sV S 10 o k p) 11 o k l) 12 o k v
theorem SO.ta {o k : Nat} (p l v : Int32) : SO P ad ad S (sp_ta S o k p l v) (fun a i j => (a = 16 ∨ a = 17 ∨ a = 18 ∨ a = 19) ∧ i = o ∧ j = 0) := by
  intro a i j hl hN
  rcases k23 hl with rfl | rfl | rfl | rfl | rfl | rfl | rfl | rfl | rfl | rfl | rfl | rfl | rfl | rfl | rfl | rfl | rfl | rfl | rfl | rfl | rfl | rfl | rfl
  all_goals first
    | exact ⟨hl, rfl, fun c hc => hc⟩
    | exact ⟨hl, rfl, fun c hc => by refine ok22 ?_ ?_ ?_ ?_ hc <;> (intros; rfl)⟩
    | skip
  · have hi : ¬ i = o := fun x => hN ⟨by simp, x, hl.2⟩
    refine ⟨hl, rfl, fun c hc => ?_⟩
    show c = ac_O 7 [.ref (ad 17 i 0), .ref (ad 18 i 0), .ref (ad 19 i 0), .int (nI (q_keys (sp_ta S o k p l v) i 10))]
    rw [q_keys_cg (S := S) 10 (fun q _ => by simp [sp_ta, sV_2, hi])]
    exact hc
  · have hi : ¬ i = o := fun x => hN ⟨by simp, x, hl.2⟩
    refine ⟨hl, rfl, fun c hc => ?_⟩
    obtain ⟨f, b1, b2⟩ := hc
    exact ⟨f, b1, fun q hq => by rw [b2 q hq]; simp [sp_ta, sV_2, hi]⟩
  · have hi : ¬ i = o := fun x => hN ⟨by simp, x, hl.2⟩
    refine ⟨hl, rfl, fun c hc => ?_⟩
    obtain ⟨b0, f, b1, b2⟩ := hc
    exact ⟨fun hz k hk => by rw [← b0 (by simpa [sp_ta, sV_2] using hz) k hk]; simp [sp_ta, sV_2, hi], f, b1, fun q hq => by rw [b2 q hq]; simp [sp_ta, sV_2, hi]⟩
  · have hi : ¬ i = o := fun x => hN ⟨by simp, x, hl.2⟩
    refine ⟨hl, rfl, fun c hc => ?_⟩
    obtain ⟨f, b1, b2⟩ := hc
    exact ⟨f, b1, fun q hq => by rw [b2 q hq]; simp [sp_ta, sV_2, hi]⟩
theorem c_thas (hv : CW P fx mem K ad h S) {o k : Nat} (ho : o < S.1 0 0 0) (hk : k < 10) : am_E P 30 0 [some (.ref (ad 16 o 0)), some (.int (nI k))] [] h = some (some (.int (if S.2 10 o k = -6 then 0 else 1)), h) := by
  obtain ⟨fp, p1, p2⟩ := hv.tp ho
  have c0 : ¬ (nI k < 0 ∨ 10 ≤ nI k) := by
    rintro (e | e)
    · exact nI_pos (by omega) e
    · exact nI_ge (b := 10) hk (by decide) e
  have c01 : ¬ (1 : Int32) = 0 := by decide
  simp only [r30, c_isKey, if_neg c0, Option.bind_some, Option.toList, List.nil_append, List.cons_append, if_neg c01, o4 (hv.tb ho), iald_I p1 hk (by decide), p2 k hk]
  by_cases h6 : S.2 10 o k = -6
  · simp [h6]
  · simp [h6]
/-- Table.take: as the pure state's -/
theorem c_ttake (hv : CW P fx mem K ad h S) {o p pl r : Nat} (ho : o < S.1 0 0 0) (hs0 : ¬ S.2 1 o 0 = 0) (hp : p < 1000) (hkey : 0 ≤ S.2 4 r 3 ∧ S.2 4 r 3 < 10) : ∃ h', am_E P 31 0 [some (.ref (ad 16 o 0)), some (.int (S.2 4 r 3)), some (.int (S.2 4 r 4)), some (.int (nI p)), some (.int (nI pl)), none] [] h = some (some (.int (nI (sp_last S o p pl r).1)), h') ∧ CW P fx mem K ad h' (sp_last S o p pl r).2 := by
  obtain ⟨k, hk, ek, ck⟩ := key_nat hkey
  unfold sp_last
  rw [ck, ek]
  generalize S.2 4 r 4 = v
  obtain ⟨fp, p1, p2⟩ := hv.tp ho
  obtain ⟨fl, l1, l2⟩ := hv.tl ho
  obtain ⟨fv, v1, v2⟩ := hv.tv ho
  have tb := hv.tb ho
  have hth := c_thas hv ho hk
  have c0 : ¬ (nI k < 0 ∨ 10 ≤ nI k) := by
    rintro (e | e)
    · exact nI_pos (by omega) e
    · exact nI_ge (b := 10) hk (by decide) e
  have c01 : ¬ (1 : Int32) = 0 := by decide
  have gp : am_iald h (ad 18 o 0) (nI k) = some (S.2 10 o k) := by rw [iald_I p1 hk (by decide), p2 k hk]
  have gl : am_iald h (ad 19 o 0) (nI k) = some (S.2 11 o k) := by rw [iald_I l1 hk (by decide), l2 k hk]
  have np6 : nI p ≠ -6 := nI_ne6 (by omega)
  by_cases hc : S.2 10 o k ≠ -6 ∧ (nI p < S.2 10 o k ∨ (S.2 10 o k = nI p ∧ nI pl ≤ S.2 11 o k))
  · rw [if_pos hc]
    refine ⟨h, ?_, hv⟩
    rcases hc.2 with h1 | ⟨h1, h2⟩
    · have a1 : ¬ S.2 10 o k < nI p := fun e => absurd (Int32.lt_trans h1 e) (Int32.lt_irrefl)
      have a2 : ¬ nI p = S.2 10 o k := fun e => by rw [e] at h1; exact Int32.lt_irrefl h1
      simp only [r31, c_isKey, if_neg c0, Option.bind_some, Option.toList, List.nil_append, List.cons_append, if_neg c01, o4 tb, gp, if_neg a1, if_neg a2, if_true, true_or]
      rfl
    · have a1 : ¬ S.2 10 o k < nI p := fun e => by rw [h1] at e; exact Int32.lt_irrefl e
      simp only [r31, c_isKey, if_neg c0, Option.bind_some, Option.toList, List.nil_append, List.cons_append, if_neg c01, o4 tb, gp, if_neg a1, h1, if_true, gl, if_pos h2, true_or]
      simp [r31]
      rfl
  · rw [if_neg hc]
    have hnew : S.2 10 o k < nI p ∨ (nI p = S.2 10 o k ∧ ¬ nI pl ≤ S.2 11 o k ∧ ¬ S.2 10 o k < nI p) := by
      by_cases h6 : S.2 10 o k = -6
      · left
        rw [h6, i_lt, nI_toInt (show p < 2 ^ 31 by omega)]
        have : (-6 : Int32).toInt = -6 := rfl
        omega
      · by_cases hlt : S.2 10 o k < nI p
        · exact Or.inl hlt
        · right
          have hle := Int32.not_lt.mp hlt
          have e : nI p = S.2 10 o k := by
            refine Int32.le_antisymm hle (Int32.not_lt.mp (fun x => hc ⟨h6, Or.inl x⟩))
          exact ⟨e, fun x => hc ⟨h6, Or.inr ⟨e.symm, x⟩⟩, hlt⟩
    have n1 : ad 17 o 0 ≠ ad 16 o 0 := hv.ne (k := 17) (k' := 16) ⟨ho, rfl⟩ ⟨ho, rfl⟩ (fun _ => rfl) (fun _ => rfl) (fun x => absurd x.1 (by decide))
    have n2 : ad 18 o 0 ≠ ad 16 o 0 := hv.ne (k := 18) (k' := 16) ⟨ho, rfl⟩ ⟨ho, rfl⟩ (fun _ => rfl) (fun _ => rfl) (fun x => absurd x.1 (by decide))
    have n3 : ad 19 o 0 ≠ ad 16 o 0 := hv.ne (k := 19) (k' := 16) ⟨ho, rfl⟩ ⟨ho, rfl⟩ (fun _ => rfl) (fun _ => rfl) (fun x => absurd x.1 (by decide))
    have n4 : ad 18 o 0 ≠ ad 17 o 0 := hv.ne (k := 18) (k' := 17) ⟨ho, rfl⟩ ⟨ho, rfl⟩ (fun _ => rfl) (fun _ => rfl) (fun x => absurd x.1 (by decide))
    have n5 : ad 19 o 0 ≠ ad 17 o 0 := hv.ne (k := 19) (k' := 17) ⟨ho, rfl⟩ ⟨ho, rfl⟩ (fun _ => rfl) (fun _ => rfl) (fun x => absurd x.1 (by decide))
    have n6 : ad 19 o 0 ≠ ad 18 o 0 := hv.ne (k := 19) (k' := 18) ⟨ho, rfl⟩ ⟨ho, rfl⟩ (fun _ => rfl) (fun _ => rfl) (fun x => absurd x.1 (by decide))
    -- the table's own cell, then the three arrays
    have fin : ∀ hx : am_H, hx.1 = h.1 → hx.2.1 = h.2.1 → (∀ a, a ≠ ad 16 o 0 → hx.2.2 a = h.2.2 a) → hx.2.2 (ad 16 o 0) = ac_O 7 [.ref (ad 17 o 0), .ref (ad 18 o 0), .ref (ad 19 o 0), .int (nI (q_keys (sp_ta S o k (nI p) (nI pl) v) o 10))] → ∃ h', am_E P 31 72 [some (.ref (ad 16 o 0)), some (.int (nI k)), some (.int v), some (.int (nI p)), some (.int (nI pl)), some (.int 1)] [] hx = some (some (.int 1), h') ∧ CW P fx mem K ad h' (sp_ta S o k (nI p) (nI pl) v) := by
      intro hx g1 g2 g3 g4
      have x17 : hx.2.2 (ad 17 o 0) = ac_I 10 fv := by rw [g3 _ n1]; exact v1
      have y16 : (ah_put hx (ad 17 o 0) (ac_I 10 (upd fv k v))).2.2 (ad 16 o 0) = ac_O 7 [.ref (ad 17 o 0), .ref (ad 18 o 0), .ref (ad 19 o 0), .int (nI (q_keys (sp_ta S o k (nI p) (nI pl) v) o 10))] := by rw [ah_ne (Ne.symm n1)]; exact g4
      have y18 : (ah_put hx (ad 17 o 0) (ac_I 10 (upd fv k v))).2.2 (ad 18 o 0) = ac_I 10 fp := by rw [ah_ne n4, g3 _ n2]; exact p1
      have z16 : (ah_put (ah_put hx (ad 17 o 0) (ac_I 10 (upd fv k v))) (ad 18 o 0) (ac_I 10 (upd fp k (nI p)))).2.2 (ad 16 o 0) = ac_O 7 [.ref (ad 17 o 0), .ref (ad 18 o 0), .ref (ad 19 o 0), .int (nI (q_keys (sp_ta S o k (nI p) (nI pl) v) o 10))] := by rw [ah_ne (Ne.symm n2)]; exact y16
      have z19 : (ah_put (ah_put hx (ad 17 o 0) (ac_I 10 (upd fv k v))) (ad 18 o 0) (ac_I 10 (upd fp k (nI p)))).2.2 (ad 19 o 0) = ac_I 10 fl := by rw [ah_ne n6, ah_ne n5, g3 _ n3]; exact l1
      refine ⟨ah_put (ah_put (ah_put hx (ad 17 o 0) (ac_I 10 (upd fv k v))) (ad 18 o 0) (ac_I 10 (upd fp k (nI p)))) (ad 19 o 0) (ac_I 10 (upd fl k (nI pl))), ?_, ?_⟩
      · simp only [r31, o4 g4, o4 y16, o4 z16, Option.bind_some, iast_I x17 hk (by decide), iast_I y18 hk (by decide), iast_I z19 hk (by decide), or_true, if_true]
      · refine hv.puts (fun a i j => (a = 16 ∨ a = 17 ∨ a = 18 ∨ a = 19) ∧ i = o ∧ j = 0) (fun _ => SO.ta (nI p) (nI pl) v) (fun a i j hN ae => ?_) (fun a i j hN hl => hl) g1 g2 (fun a ha => ?_) (fun a i j hN hl ae => ?_) rfl rfl
        · rcases hN with ⟨rfl | rfl | rfl | rfl, -, -⟩ <;> rfl
        · rw [ah_ne (ha 19 o 0 ⟨by simp, rfl, rfl⟩ ⟨ho, rfl⟩), ah_ne (ha 18 o 0 ⟨by simp, rfl, rfl⟩ ⟨ho, rfl⟩), ah_ne (ha 17 o 0 ⟨by simp, rfl, rfl⟩ ⟨ho, rfl⟩)]
          exact g3 a (ha 16 o 0 ⟨by simp, rfl, rfl⟩ ⟨ho, rfl⟩)
        · rcases hN with ⟨rfl | rfl | rfl | rfl, rfl, rfl⟩
          · rw [ah_ne (Ne.symm n3)]; exact z16
          · rw [ah_ne (Ne.symm n5), ah_ne (Ne.symm n4), ah_same]
            refine ⟨_, rfl, fun q hq => ?_⟩
            simp only [upd, sp_ta, sV_2, true_and]
            split
            · rfl
            · simp; exact v2 q hq
          · rw [ah_ne (Ne.symm n6), ah_same]
            refine ⟨fun hz => absurd (show S.2 1 i 0 = 0 from hz) hs0, _, rfl, fun q hq => ?_⟩
            simp only [upd, sp_ta, sV_2, true_and]
            by_cases hqk : q = k
            · simp [hqk]
            · simp [hqk]; exact p2 q hq
          · rw [ah_same]
            refine ⟨_, rfl, fun q hq => ?_⟩
            simp only [upd, sp_ta, sV_2, true_and]
            by_cases hqk : q = k
            · simp [hqk]
            · simp [hqk]; exact l2 q hq
    have hks := q_keys_up (S := S) (S' := sp_ta S o k (nI p) (nI pl) v) (o := o) (k := k) (fun i hi => by simp [sp_ta, sV_2, hi]) (by simp [sp_ta, sV_2]; exact np6) 10
    have s47 : am_E P 31 0 [some (.ref (ad 16 o 0)), some (.int (nI k)), some (.int v), some (.int (nI p)), some (.int (nI pl)), none] [] h = am_E P 31 47 [some (.ref (ad 16 o 0)), some (.int (nI k)), some (.int v), some (.int (nI p)), some (.int (nI pl)), some (.int 1)] [] h := by
      rcases hnew with h1 | ⟨h1, h2, h3⟩
      · simp only [r31, c_isKey, if_neg c0, Option.bind_some, Option.toList, List.nil_append, List.cons_append, if_neg c01, o4 tb, gp, if_pos h1]
      · simp only [r31, c_isKey, if_neg c0, Option.bind_some, Option.toList, List.nil_append, List.cons_append, if_neg c01, o4 tb, gp, if_neg h3, if_pos h1, gl, if_neg h2]
    rw [s47]
    by_cases h6 : S.2 10 o k = -6
    · have hx16 : (ah_put h (ad 16 o 0) (ac_O 7 [.ref (ad 17 o 0), .ref (ad 18 o 0), .ref (ad 19 o 0), .int (nI (q_keys S o 10) + 1)])).2.2 (ad 16 o 0) = ac_O 7 [.ref (ad 17 o 0), .ref (ad 18 o 0), .ref (ad 19 o 0), .int (nI (q_keys (sp_ta S o k (nI p) (nI pl) v) o 10))] := by
        rw [ah_same, hks, if_pos ⟨hk, h6⟩, nI_1]
      obtain ⟨h', e1, e2⟩ := fin (ah_put h (ad 16 o 0) (ac_O 7 [.ref (ad 17 o 0), .ref (ad 18 o 0), .ref (ad 19 o 0), .int (nI (q_keys S o 10) + 1)])) rfl rfl (fun a ha => ah_ne ha) hx16
      refine ⟨h', ?_, e2⟩
      rw [if_pos h6] at hth
      refine Eq.trans ?_ e1
      simp only [r31, if_neg c01, o4 tb, if_true, hth, Option.bind_some, Option.toList, List.nil_append, List.cons_append]
    · rw [if_neg (fun x => h6 x.2), Nat.add_zero] at hks
      obtain ⟨h', e1, e2⟩ := fin h rfl rfl (fun a ha => rfl) (by rw [hks]; exact tb)
      refine ⟨h', ?_, e2⟩
      rw [if_neg h6] at hth
      refine Eq.trans ?_ e1
      simp only [r31, if_neg c01, o4 tb, if_true, hth, Option.bind_some, Option.toList, List.nil_append, List.cons_append]
end CTb
