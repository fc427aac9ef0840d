/-! The class: a line comes. -/
/-- lines stand in the order of their parts -/
theorem iL.ord {S : sp} {o : Nat} (h : iL S o) {i j p q : Nat} (hij : i ≤ j) (hj : j < S.1 6 o 0) (hp : p < S.1 5 o 0) (hq : q < S.1 5 o 0) (hi1 : S.1 14 o p ≤ i) (hi2 : i < S.1 14 o p + S.1 15 o p) (hj1 : S.1 14 o q ≤ j) (hj2 : j < S.1 14 o q + S.1 15 o q) : p ≤ q := by
  by_cases hpq : p ≤ q
  · exact hpq
  · have := h.2.2.1 q p (by omega) hp (by omega) (by omega)
    omega
theorem q_has_lt {S : sp} {o p pl i : Nat} (h : iL S o) (hi : i < S.1 6 o 0) (hg : S.1 5 o 0 < 1000) (hp : p < 1000) (hlt : S.2 8 o i < nI p) : q_has S o p pl i = false := by
  cases hq : q_has S o p pl i with
  | false => rfl
  | true =>
    exfalso
    obtain ⟨j, hj, e1, e2⟩ := q_has_ex.mp hq
    obtain ⟨a, ha, ea, a1, a2, -⟩ := h.at hi
    obtain ⟨b, hb, eb, b1, b2, -⟩ := h.at (i := j) (by omega)
    have : b ≤ a := h.ord (Nat.le_of_lt hj) hi hb ha b1 b2 a1 a2
    rw [ea, nI_ltI (by omega) (by omega)] at hlt
    rw [eb, nI_eq (by omega) (by omega)] at e1
    omega
section CLn
variable {P : Nat × Nat} {fx : Nat → Prop} {mem : Nat → am_C} {K : Nat × Nat} {ad ae : Nat → Nat → Nat → Nat} {h : am_H} {S : sp}
theorem c_there (hv : CW P fx mem K ad h S) {o p pl : Nat} (ho : o < S.1 0 0 0) (hL : iL S o) (hn : S.1 6 o 0 ≤ 20000) (hg : S.1 5 o 0 < 1000) (hp : p < 1000) : am_E P 9 0 [some (.ref (ad 14 o 0)), some (.int (nI p)), some (.int (nI pl)), none, none] [] h = some (some (.int (if q_has S o p pl (S.1 6 o 0) = true then 1 else 0)), h) := by
  obtain ⟨e, N, f, hw, hf⟩ := hv.rwL ho hn
  have hcl := (hv.cntL ho).2
  have loop : ∀ c l, c ≤ S.1 6 o 0 → am_E P 9 7 [some (.ref (ad 14 o 0)), some (.int (nI p)), some (.int (nI pl)), some (.int (nI c - 1)), l] [] h = some (some (.int (if q_has S o p pl c = true then 1 else 0)), h) := by
    intro c
    induction c with
    | zero =>
      intro l _
      have c1 : nI 0 - 1 < 0 := by decide
      rw [hd9_7]
      simp only [r9, if_pos c1, true_or, if_true]
      rfl
    | succ c ih =>
      intro l hc
      have c1 : ¬ nI c < 0 := nI_pos (by omega)
      have em : nI c + (-1) = nI c - 1 := (Int32.sub_eq_add_neg _ _).symm
      have g2 : am_E P 26 0 [some (.ref (ad 14 o 0)), some (.int (nI c)), some (.int 2)] [] h = some (some (.int (S.2 8 o c)), h) := by
        have := c_cell P hw (i := c) (c := 2) (by omega) (by decide)
        rw [(hf c (by omega)).2.2.1] at this
        exact this
      have g3 : am_E P 26 0 [some (.ref (ad 14 o 0)), some (.int (nI c)), some (.int 3)] [] h = some (some (.int (S.2 9 o c)), h) := by
        have := c_cell P hw (i := c) (c := 3) (by omega) (by decide)
        rw [(hf c (by omega)).2.2.2] at this
        exact this
      have ihc := ih (some (.int (S.2 8 o c))) (by omega)
      unfold q_has
      rw [nI_pred, hd9_7]
      simp only [r9, if_neg c1, hcl, if_true, g2, Option.bind_some, Option.toList, List.nil_append, List.cons_append]
      by_cases h8 : S.2 8 o c = nI p
      · have c2 : nI p ≤ S.2 8 o c := by rw [h8]; exact Int32.le_refl _
        by_cases h9 : S.2 9 o c = nI pl
        · simp [h8, r9, hcl, g3, h9]
        · have : (q_has S o p pl c || (decide (S.2 8 o c = nI p) && decide (S.2 9 o c = nI pl))) = q_has S o p pl c := by simp [h9]
          rw [this, ← ihc]
          simp only [if_pos h8, r9, hcl, if_true, g3, Option.bind_some, Option.toList, List.nil_append, List.cons_append, if_neg h9, if_pos c2, em]
      · have : (q_has S o p pl c || (decide (S.2 8 o c = nI p) && decide (S.2 9 o c = nI pl))) = q_has S o p pl c := by simp [h8]
        rw [this]
        by_cases hlt : S.2 8 o c < nI p
        · rw [q_has_lt hL (by omega) hg hp hlt]
          have c2 : ¬ nI p ≤ S.2 8 o c := Int32.not_le.mpr hlt
          simp only [if_neg h8, r9, if_neg c2, true_or, if_true]
          rfl
        · have c2 : nI p ≤ S.2 8 o c := Int32.not_lt.mp hlt
          rw [← ihc]
          simp only [if_neg h8, r9, if_pos c2, em]
  simp only [r9, hcl, if_true, (hv.cntL ho).1, Option.bind_some, Option.toList, List.nil_append, List.cons_append]
  exact loop _ none (Nat.le_refl _)
/-- a line behind the others -/
def sp_la (S : sp) (o : Nat) (k v p l : Int32) : sp := sN (sV (sV (sV (sV S 6 o (S.1 6 o 0) k) 7 o (S.1 6 o 0) v) 8 o (S.1 6 o 0) p) 9 o (S.1 6 o 0) l) 6 o 0 (S.1 6 o 0 + 1)
theorem la_V (S : sp) (o : Nat) (k v p l : Int32) (i n : Nat) : (sp_la S o k v p l).2 6 i n = (if i = o ∧ n = S.1 6 o 0 then k else S.2 6 i n) ∧ (sp_la S o k v p l).2 7 i n = (if i = o ∧ n = S.1 6 o 0 then v else S.2 7 i n) ∧ (sp_la S o k v p l).2 8 i n = (if i = o ∧ n = S.1 6 o 0 then p else S.2 8 i n) ∧ (sp_la S o k v p l).2 9 i n = (if i = o ∧ n = S.1 6 o 0 then l else S.2 9 i n) := by
  unfold sp_la
  simp only [sN_2, sV_2, true_and]
  refine ⟨?_, ?_, ?_, ?_⟩ <;> simp
theorem la_N (S : sp) (o : Nat) (k v p l : Int32) (i : Nat) : (sp_la S o k v p l).1 6 i 0 = if i = o then S.1 6 o 0 + 1 else S.1 6 i 0 := by
  unfold sp_la
  simp only [sN_1, sV_1, true_and, and_true]
theorem SO.la (e : Nat) {o : Nat} (k v p l : Int32) : SO P (jn ad ae) (jn ad (u3 ae 15 o 0 e)) S (sp_la S o k v p l) (fun a i _ => (a = 14 ∨ a = 15) ∧ i = o) := by
  intro a i j hl hN
  rcases k23 hl with rfl | rfl | rfl | rfl | rfl | rfl | rfl | rfl | rfl | rfl | rfl | rfl | rfl | rfl | rfl | rfl | rfl | rfl | rfl | rfl | rfl | rfl | rfl
  all_goals first
    | exact ⟨hl, rfl, fun c hc => hc⟩
    | skip
  · have hi : ¬ i = o := fun x => hN ⟨Or.inl rfl, x⟩
    refine ⟨hl, rfl, fun c hc => ?_⟩
    show c = ac_O 3 [.int (nI 4), .ref (u3 ae 15 o 0 e 15 i 0), .int (nI ((sp_la S o k v p l).1 6 i 0))]
    rw [la_N, if_neg hi]
    unfold u3
    rw [if_neg (fun x => hi x.2.1)]
    exact hc
  · have hi : ¬ i = o := fun x => hN ⟨Or.inr rfl, x⟩
    refine ⟨hl, ?_, fun c hc => ?_⟩
    · show u3 ae 15 o 0 e 15 i j = ae 15 i j
      unfold u3
      rw [if_neg (fun x => hi x.2.1)]
    · obtain ⟨N, f, b1, b2, b3, b4⟩ := hc
      refine ⟨N, f, b1, by rw [la_N, if_neg hi]; exact b2, b3, fun n hn => ?_⟩
      rw [la_N, if_neg hi] at hn
      have := la_V S o k v p l i n
      simp only [hi, false_and, if_false] at this
      rw [this.1, this.2.1, this.2.2.1, this.2.2.2]
      exact b4 n hn
  · refine ⟨hl, rfl, fun c hc => ?_⟩
    obtain ⟨b1, f, b2, b3⟩ := hc
    have e7 : (sp_la S o k v p l).1 7 i 0 = S.1 7 i 0 := rfl
    have e8 : (sp_la S o k v p l).1 8 i 0 = S.1 8 i 0 := rfl
    refine ⟨?_, f, b2, fun q hq => ?_⟩
    · rw [e7, e8, la_N]
      split
      · rename_i e; rw [e] at b1; omega
      · exact b1
    · rw [e7, e8, q_cnt_cg _ (fun n hn => ?_)]
      · exact b3 q hq
      · rw [(la_V S o k v p l _ n).1, if_neg]
        rintro ⟨x, y⟩
        rw [x] at b1
        omega
theorem c_ladd (P : Nat × Nat) {h : am_H} {d e n N : Nat} {f : Nat → Int32} (hw : RW h d 3 4 e n N f) (hn : n < 20000) (k v p l : Int32) (l5 : Option Value) : ∃ h' e' N' f', am_E P 8 12 [some (.ref d), some (.int k), some (.int v), some (.int p), some (.int l), l5] [] h = some (some (.int 1), h') ∧ RW h' d 3 4 e' (n + 1) N' f' ∧ (∀ q, q < n * 4 → f' q = f q) ∧ (f' (n * 4) = k ∧ f' (n * 4 + 1) = v ∧ f' (n * 4 + 2) = p ∧ f' (n * 4 + 3) = l) ∧ ((e' = e ∧ h'.1 = h.1 ∧ h'.2.1 = h.2.1) ∨ (e' = h.1 ∧ h'.1 = h.1 + 1 ∧ h'.2.1 = h.2.1 + 2 * ((n + 1) * 4))) ∧ (∀ a, a ≠ d → a ≠ e' → h'.2.2 a = h.2.2 a) := by
  obtain ⟨h1, e', N', f1, e1, w1, e2, e3, e4⟩ := c_addRow P hw hn
  have w2 := w1.set (upd f1 (n * 4 + 0) k)
  have w3 := w2.set (upd (upd f1 (n * 4 + 0) k) (n * 4 + 1) v)
  have w4 := w3.set (upd (upd (upd f1 (n * 4 + 0) k) (n * 4 + 1) v) (n * 4 + 2) p)
  have w5 := w4.set (upd (upd (upd (upd f1 (n * 4 + 0) k) (n * 4 + 1) v) (n * 4 + 2) p) (n * 4 + 3) l)
  have s1 := c_set P w1 (i := n) (c := 0) (by omega) (by decide) k
  have s2 := c_set P w2 (i := n) (c := 1) (by omega) (by decide) v
  have s3 := c_set P w3 (i := n) (c := 2) (by omega) (by decide) p
  have s4 := c_set P w4 (i := n) (c := 3) (by omega) (by decide) l
  refine ⟨_, e', N', _, ?_, w5, fun q hq => ?_, ?_, e3, fun a ha hb => ?_⟩
  · have z0 : (0 : Int32) = nI 0 := rfl
    have z1 : (1 : Int32) = nI 1 := rfl
    have z2 : (2 : Int32) = nI 2 := rfl
    have z3 : (3 : Int32) = nI 3 := rfl
    rw [← z0] at s1
    rw [← z1] at s2
    rw [← z2] at s3
    rw [← z3] at s4
    simp only [r8, cl_of hw.1, if_true, e1, Option.bind_some, Option.toList, List.nil_append, List.cons_append, cl_of w1.1, s1, cl_of w2.1, s2, cl_of w3.1, s3, cl_of w4.1, s4, or_true]
  · simp only [upd]
    rw [if_neg (by omega), if_neg (by omega), if_neg (by omega), if_neg (by omega)]
    exact e2 q hq
  · simp [upd]
  · rw [ah_ne hb, ah_ne hb, ah_ne hb, ah_ne hb]
    exact e4 a ha hb
theorem la_w (S : sp) {o : Nat} (ho : o < 3) (k v p l : Int32) : w1 (sp_la S o k v p l) = w1 S + 1 ∧ w2 S + 10 * (S.1 6 o 0 + 1) ≤ w2 (sp_la S o k v p l) := by
  have q := (sq_le (S.1 6 o 0)).1
  have e1 : (sp_la S o k v p l).1 1 0 0 = S.1 1 0 0 := rfl
  unfold w1 w2
  rw [la_N, la_N, la_N, e1]
  have : o = 0 ∨ o = 1 ∨ o = 2 := by omega
  rcases this with rfl | rfl | rfl
  · simp only [if_true, show ¬ (1 = 0) by decide, show ¬ (2 = 0) by decide, if_false]
    omega
  · simp only [if_true, show ¬ (0 = 1) by decide, show ¬ (2 = 1) by decide, if_false]
    omega
  · simp only [if_true, show ¬ (0 = 2) by decide, show ¬ (1 = 2) by decide, if_false]
    omega
theorem c_la (hv : CV P fx mem K (jn ad ae) h S) {o : Nat} (ho : o < S.1 0 0 0) (h3 : S.1 0 0 0 ≤ 3) (hn : S.1 6 o 0 < 20000) (k v p l : Int32) (l5 : Option Value) : ∃ h', am_E P 8 12 [some (.ref (ad 14 o 0)), some (.int k), some (.int v), some (.int p), some (.int l), l5] [] h = some (some (.int 1), h') ∧ CW P fx mem K ad h' (sp_la S o k v p l) := by
  obtain ⟨N, f, hw, hf⟩ := hv.rwL ho (by omega)
  have hw : RW h (ad 14 o 0) 3 4 (ae 15 o 0) (S.1 6 o 0) N f := hw
  obtain ⟨h', e', N', f', e1, w', e2, e5, e3, fr⟩ := c_ladd P hw hn k v p l l5
  have l14 : lv S 14 o 0 := ⟨ho, rfl⟩
  have l15 : lv S 15 o 0 := ⟨ho, rfl⟩
  refine ⟨h', e1, u3 ae 15 o 0 e', hv.upd (fun a i _ => (a = 14 ∨ a = 15) ∧ i = o) (SO.la e' k v p l) ?_ (fun a i j g1 g2 hN => fr _ (fun x => ?_) (fun x => ?_)) (fun a i j g1 _ _ => (hv.1 a i j g1).2.1) (fun a i j g1 hN => ?_) ?_ (fun a ha => ?_) hv.2.2.2.1 hv.2.2.2.2.1 ?_ ?_⟩
  · rcases e3 with ⟨_, b, _⟩ | ⟨_, b, _⟩ <;> omega
  · obtain ⟨x1, x2, x3⟩ := hv.2.1 a i j 14 o 0 g1 l14 x
    exact hN ⟨Or.inl x1, x2⟩
  · rcases e3 with ⟨b, _, _⟩ | ⟨b, _, _⟩
    · obtain ⟨x1, x2, x3⟩ := hv.2.1 a i j 15 o 0 g1 l15 (x.trans b)
      exact hN ⟨Or.inr x1, x2⟩
    · have := (hv.1 a i j g1).1
      omega
  · obtain ⟨q1, q2, q3, q4, q5, q6, q7, q8, q9, q10⟩ := w'
    obtain ⟨rfl | rfl, rfl⟩ := hN
    · obtain rfl : j = 0 := g1.2
      refine ⟨q8, (hv.1 14 i 0 l14).2.1, ?_⟩
      show h'.2.2 (ad 14 i 0) = ac_O 3 [.int (nI 4), .ref (u3 ae 15 i 0 e' 15 i 0), .int (nI ((sp_la S i k v p l).1 6 i 0))]
      rw [la_N, if_pos rfl]
      unfold u3
      rw [if_pos ⟨rfl, rfl, rfl⟩]
      exact q1
    · obtain rfl : j = 0 := g1.2
      have ea : jn ad (u3 ae 15 i 0 e') 15 i 0 = e' := by
        show u3 ae 15 i 0 e' 15 i 0 = e'
        unfold u3
        rw [if_pos ⟨rfl, rfl, rfl⟩]
      rw [ea]
      refine ⟨q9, ?_, N', _, q2, by rw [la_N, if_pos rfl]; exact q4, q5, fun i' hi' => ?_⟩
      · rcases e3 with ⟨b, _, _⟩ | ⟨b, _, _⟩
        · rw [b]; exact (hv.1 15 i 0 l15).2.1
        · rw [b]; intro hx; have := (hv.2.2.1 _ hx).1; omega
      · rw [la_N, if_pos rfl] at hi'
        have hV := la_V S i k v p l i i'
        simp only [true_and] at hV
        rw [hV.1, hV.2.1, hV.2.2.1, hV.2.2.2]
        by_cases hii : i' = S.1 6 i 0
        · simp only [hii, if_true]
          exact e5
        · simp only [hii, if_false]
          rw [e2 _ (by omega), e2 _ (by omega), e2 _ (by omega), e2 _ (by omega)]
          exact hf i' (by omega)
  · have s1 := AJ.mv (L := lv S) (L' := lv (sp_la S o k v p l)) hv.2.1 15 o 0 e' (fun a i j hl => Or.inl ?_) (fun a i j hl hn' e => ?_)
    · rw [jn_u3 ad ae (by decide)] at s1
      exact s1
    · rcases k23 hl with rfl | rfl | rfl | rfl | rfl | rfl | rfl | rfl | rfl | rfl | rfl | rfl | rfl | rfl | rfl | rfl | rfl | rfl | rfl | rfl | rfl | rfl | rfl <;> exact hl
    · rcases e3 with ⟨b, _, _⟩ | ⟨b, _, _⟩
      · exact hn' (hv.2.1 a i j 15 o 0 hl l15 (e.trans b))
      · have := (hv.1 a i j hl).1
        omega
  · have hx := hv.2.2.1 a ha
    have n1 : a ≠ ad 14 o 0 := fun e => (hv.1 14 o 0 l14).2.1 (show fx (ad 14 o 0) from e ▸ ha)
    have n2 : a ≠ e' := by
      rcases e3 with ⟨b, _, _⟩ | ⟨b, _, _⟩
      · intro e; exact (hv.1 15 o 0 l15).2.1 (show fx (ae 15 o 0) by rw [← b, ← e]; exact ha)
      · omega
    refine ⟨?_, by rw [fr a n1 n2]; exact hx.2⟩
    rcases e3 with ⟨_, b, _⟩ | ⟨_, b, _⟩ <;> omega
  · have := hv.2.2.2.2.2.1
    rw [(la_w S (show o < 3 by omega) k v p l).1]
    rcases e3 with ⟨_, b, _⟩ | ⟨_, b, _⟩ <;> omega
  · have := hv.2.2.2.2.2.2
    have := (la_w S (show o < 3 by omega) k v p l).2
    rcases e3 with ⟨_, _, b⟩ | ⟨_, _, b⟩ <;> omega
/-- Lines.take: as the pure state's -/
theorem c_ltake (hv : CW P fx mem K ad h S) {o p pl r : Nat} (ho : o < S.1 0 0 0) (h3 : S.1 0 0 0 ≤ 3) (hL : iL S o) (hn : S.1 6 o 0 < 20000) (hg : S.1 5 o 0 < 1000) (hp : p < 1000) : ∃ h', am_E P 8 0 [some (.ref (ad 14 o 0)), some (.int (S.2 4 r 3)), some (.int (S.2 4 r 4)), some (.int (nI p)), some (.int (nI pl)), none] [] h = some (some (.int (nI (sp_line S o p pl r).1)), h') ∧ CW P fx mem K ad h' (sp_line S o p pl r).2 := by
  have ht := c_there hv (p := p) (pl := pl) ho hL (by omega) hg hp
  have hcl := (hv.cntL ho).2
  have c01 : ¬ (1 : Int32) = 0 := by decide
  unfold sp_line
  by_cases hq : q_has S o p pl (S.1 6 o 0) = true
  · rw [if_pos hq] at ht ⊢
    refine ⟨h, ?_, hv⟩
    simp only [r8, hcl, if_true, ht, Option.bind_some, Option.toList, List.nil_append, List.cons_append, if_neg c01, true_or]
    rfl
  · rw [if_neg hq] at ht ⊢
    obtain ⟨ae, hv⟩ := hv
    obtain ⟨h', e1, v1⟩ := c_la hv ho h3 hn (S.2 4 r 3) (S.2 4 r 4) (nI p) (nI pl) none
    refine ⟨h', ?_, v1⟩
    refine Eq.trans ?_ e1
    simp only [r8, hcl, if_true, ht, Option.bind_some, Option.toList, List.nil_append, List.cons_append]
end CLn
