/-! The model: open. -/
theorem q_en_01 (S : sp) : ∀ n, q_en S n = 0 ∨ q_en S n = 1 := by
  intro n
  induction n with
  | zero => exact Or.inl rfl
  | succ n ih =>
    unfold q_en
    split
    · exact Or.inr rfl
    · exact ih
theorem va_up2 {β : Type} (F : Nat → β) (k : Nat) (x y : β) : va_up (va_up F k x) k y = va_up F k y := by
  funext a
  by_cases h : a = k <;> simp [va_up, h]
theorem va_upc {β : Type} (F : Nat → β) {k j : Nat} (hkj : k ≠ j) (x y : β) : va_up (va_up F k x) j y = va_up (va_up F j y) k x := by
  funext a
  by_cases h : a = k
  · subst h; simp [va_up, hkj]
  · by_cases h2 : a = j
    · subst h2; simp [va_up, h]
    · simp [va_up, h, h2]
section MOp
variable {M n s : Nat} {mem : Nat → am_C}
/-- what the records don't tell -/
def mx (S : sp) (f : Nat → Int32) (F : Nat → Nat → Int32) : Prop := m_f (va_up (va_up f 25 (S.2 0 0 0)) 29 (S.2 0 1 0)) S ∧ m_F (va_up F 5 (fun o => nI (S.1 5 o 0))) S
theorem mx_25 {S : sp} {f : Nat → Int32} {F : Nat → Nat → Int32} (h : mx S f F) (x : Int32) : mx S (va_up f 25 x) F := by
  refine ⟨?_, h.2⟩
  have := h.1
  rw [va_up2]
  exact this
theorem mx_29 {S : sp} {f : Nat → Int32} {F : Nat → Nat → Int32} (h : mx S f F) (x : Int32) : mx S (va_up f 29 x) F := by
  refine ⟨?_, h.2⟩
  have := h.1
  rw [va_upc f (k := 29) (j := 25) (by decide), va_up2]
  exact this
theorem mx_5 {S : sp} {f : Nat → Int32} {F : Nat → Nat → Int32} (h : mx S f F) (x : Nat → Int32) : mx S f (va_up F 5 x) := by
  refine ⟨h.1, ?_⟩
  have := h.2
  rw [va_up2]
  exact this
theorem mx_MS {S : sp} {f : Nat → Int32} {F : Nat → Nat → Int32} {h : am_H} (hv : MV M n s mem h f F) (hx : mx S f F) (h25 : f 25 = S.2 0 0 0) (h29 : f 29 = S.2 0 1 0) (h5 : ∀ o, o < 3 → F 5 o = nI (S.1 5 o 0)) : MS M n s mem (f 33) h S := by
  refine ⟨f, F, hv, ?_, ?_, rfl⟩
  · obtain ⟨f1, f2, f3, f4, f5, f6, f7, f8, f9, f10⟩ := hx.1
    simp only [va_up] at f1 f2 f3 f5 f6 f8 f9 f10
    exact ⟨by simpa using f1, by simpa using f2, by simpa using f3, h25, by simpa using f5, by simpa using f6, h29, by simpa using f8, by simpa using f9, by simpa using f10⟩
  · obtain ⟨g1, g2, g3, g4, g5, g6, g7⟩ := hx.2
    refine ⟨fun o ho => ?_, ?_, ?_, ?_, ?_, ?_, ?_⟩
    · obtain ⟨a1, a2, a3, a4, a5, a6⟩ := g1 o ho
      exact ⟨by simpa [va_up] using a1, by simpa [va_up] using a2, h5 o ho, by simpa [va_up] using a4, by simpa [va_up] using a5, by simpa [va_up] using a6⟩
    · simpa [va_up] using g2
    · simpa [va_up] using g3
    · simpa [va_up] using g4
    · simpa [va_up] using g5
    · simpa [va_up] using g6
    · simpa [va_up] using g7
/-- over the records: mark, end and parts anew -/
theorem k_openR (P : Nat × Nat) {S : sp} (hco : CO S) (h3 : S.1 0 0 0 ≤ 3) (hn : S.1 1 0 0 < 4000) {l2 : Option Value} : ∀ (k r : Nat) (h : am_H) (f : Nat → Int32) (F : Nat → Nat → Int32), r + k = S.1 1 0 0 → MV M n s mem h f F → mx S f F → f 25 = q_mx S r → f 29 = q_en S r → (∀ o, o < 3 → F 5 o = q_gv S (nI o) r) →
    ∃ h' l1, am_E P 99 51 [some (.ref M), some (.int (nI r)), l2] [] h = am_E P 99 162 [some (.ref M), l1, l2] [] h' ∧ MS M n s mem (f 33) h' S := by
  intro k
  induction k with
  | zero =>
    intro r h f F hk hv hx h25 h29 h5
    obtain rfl : r = S.1 1 0 0 := by omega
    have f2 : f 8 = nI (S.1 1 0 0) := by have := hx.1.2.1; simpa [va_up] using this
    refine ⟨h, some (.int (nI (S.1 1 0 0))), ?_, mx_MS hv hx (h25.trans hco.2.2.2.2.2.1.symm) (h29.trans hco.2.2.2.2.2.2.1.symm) (fun o ho => (h5 o ho).trans (hco.2.2.2.2.2.2.2 o ho).symm)⟩
    have c1 : nI (S.1 1 0 0) ≤ nI (S.1 1 0 0) := Int32.le_refl _
    conv => lhs; rw [hd99_51]
    simp only [r99, hv.g, mo_g, f2, Option.bind_some, if_pos c1]
  | succ k ih =>
    intro r h f F hk hv hx h25 h29 h5
    have f2 : f 8 = nI (S.1 1 0 0) := by have := hx.1.2.1; simpa [va_up] using this
    have c1 : ¬ nI (S.1 1 0 0) ≤ nI r := nI_ge (by omega) (by omega)
    have b1 : r < 4000 := by omega
    have hrec := hx.2.2.2.1 r (by omega)
    simp only [va_up] at hrec
    obtain ⟨y0, y1, y2, y3, y4⟩ := hrec
    have y0 : F 8 r = S.2 4 r 0 := by simpa using y0
    have y1 : F 9 r = S.2 4 r 1 := by simpa using y1
    have y2 : F 10 r = S.2 4 r 2 := by simpa using y2
    have y3 : F 11 r = S.2 4 r 3 := by simpa using y3
    rcases hco.2.2.2.1 r (by omega) with ⟨hkd, ho6, hp6⟩ | ⟨hk2, hk5, o, ho, ho1⟩
    · have emx : q_mx S (r + 1) = if S.2 4 r 3 < q_mx S r then q_mx S r else S.2 4 r 3 := by
        conv => lhs; unfold q_mx
        rw [if_pos hkd]
      have een : q_en S (r + 1) = (if S.2 4 r 0 = 5 then 1 else q_en S r) := rfl
      have egv : ∀ o, q_gv S (nI o) (r + 1) = q_gv S (nI o) r := by
        intro o
        conv => lhs; unfold q_gv
        rw [if_pos (Or.inl hkd)]
      have v1 := hv.p 25 (q_mx S (r + 1))
      have v2 := v1.p 29 (q_en S (r + 1))
      obtain ⟨h', l1, i1, i2⟩ := ih (r + 1) _ _ F (by omega) v2 (mx_29 (mx_25 hx _) _) (by simp [va_up]) (by simp [va_up]) (fun o ho => by rw [egv]; exact h5 o ho)
      have e33 : va_up (va_up f 25 (q_mx S (r + 1))) 29 (q_en S (r + 1)) 33 = f 33 := by simp [va_up]
      rw [e33] at i2
      refine ⟨h', l1, ?_, i2⟩
      rw [← i1]
      have go : am_E P 99 51 [some (.ref M), some (.int (nI r)), l2] [] h = am_E P 99 79 [some (.ref M), some (.int (nI r)), l2] [] h := by
        rw [hd99_51]
        by_cases hk2 : S.2 4 r 0 = 2
        · simp only [r99, hv.g, mo_g, f2, Option.bind_some, if_neg c1, hv.ld 8 (by decide) (by decide) (q := r) b1, y0, hk2, if_true]
        · have hk5 : S.2 4 r 0 = 5 := by
            rcases hkd with q | q
            · exact absurd q hk2
            · exact q
          have z : ¬ (5 : Int32) = 2 := by decide
          simp only [r99, hv.g, mo_g, f2, Option.bind_some, if_neg c1, hv.ld 8 (by decide) (by decide) (q := r) b1, y0, hk5, if_neg z, if_true]
      rw [go]
      have e29 : va_up f 25 (q_mx S (r + 1)) 29 = q_en S r := by simp [va_up, h29]
      simp only [r99, hv.g, mo_g, h25, Option.bind_some, hv.ld 11 (by decide) (by decide) (q := r) b1, y3, k_great, Option.toList_some, List.cons_append, List.nil_append, ← emx, hv.w 25 (by decide), mo_s]
      simp only [r99, v1.g, mo_g, e29, Option.bind_some, v1.ld 8 (by decide) (by decide) (q := r) b1, y0]
      have o1 : q_en S (r + 1) = 0 ∨ q_en S (r + 1) = 1 := q_en_01 S (r + 1)
      have o2 : q_en S r = 0 ∨ q_en S r = 1 := q_en_01 S r
      by_cases hk5 : S.2 4 r 0 = 5
      · have e1 : q_en S (r + 1) = 1 := by rw [een, if_pos hk5]
        have e2 : q_en S r ||| 1 = 1 := by
          rcases o2 with q | q <;> rw [q] <;> rfl
        rw [e1] at v2 ⊢
        simp only [hk5, if_true, r99, e2, or_true, v1.w 29 (by decide), mo_s, Option.bind_some, nI_1]
      · have e1 : q_en S (r + 1) = q_en S r := by rw [een, if_neg hk5]
        have e2 : q_en S r ||| 0 = q_en S r := by
          rcases o2 with q | q <;> rw [q] <;> rfl
        rw [e1] at v2 ⊢
        simp only [hk5, if_false, r99, e2, if_pos o2, v1.w 29 (by decide), mo_s, Option.bind_some, nI_1]
    · have emx : q_mx S (r + 1) = q_mx S r := by
        conv => lhs; unfold q_mx
        rw [if_neg (by rintro (q | q); exact hk2 q; exact hk5 q)]
      have een : q_en S (r + 1) = q_en S r := by
        conv => lhs; unfold q_en
        rw [if_neg hk5]
      have ho3 : o < 3 := by omega
      have egv : q_gv S (nI o) (r + 1) = (if S.2 4 r 2 + 1 < q_gv S (nI o) r then q_gv S (nI o) r else S.2 4 r 2 + 1) := by
        conv => lhs; unfold q_gv
        rw [if_neg]
        rintro ((q | q) | q)
        · exact hk2 q
        · exact hk5 q
        · exact q ho1
      have egvn : ∀ a, a < 3 → a ≠ o → q_gv S (nI a) (r + 1) = q_gv S (nI a) r := by
        intro a ha hao
        conv => lhs; unfold q_gv
        rw [if_pos]
        right
        rw [ho1]
        exact fun q => hao ((nI_inj (by omega) (by omega)).mp q).symm
      have v1 := hv.a 5 (by decide) (by decide) o (q_gv S (nI o) (r + 1))
      obtain ⟨h', l1, i1, i2⟩ := ih (r + 1) _ f _ (by omega) v1 (mx_5 hx _) (by rw [emx]; exact h25) (by rw [een]; exact h29) (fun a ha => by
        by_cases hao : a = o
        · subst hao; simp [va_up, upd]
        · rw [egvn a ha hao]
          simp [va_up, upd, hao, h5 a ha])
      refine ⟨h', l1, ?_, i2⟩
      rw [← i1]
      conv => lhs; rw [hd99_51]
      simp only [r99, hv.g, mo_g, f2, Option.bind_some, if_neg c1, hv.ld 8 (by decide) (by decide) (q := r) b1, y0, if_neg hk2, if_neg hk5, hv.ld 9 (by decide) (by decide) (q := r) b1, y1, ho1, hv.ld 5 (by decide) (by decide) (q := o) (show o < 3 from ho3), h5 o ho3, hv.ld 10 (by decide) (by decide) (q := r) b1, y2, k_great, ← egv, Option.toList_some, List.cons_append, List.nil_append, hv.st 5 (by decide) (by decide) (q := o) (show o < 3 from ho3), nI_1]
theorem k_dropO (P : Nat × Nat) {l1 l2 : Option Value} : ∀ (c : Nat) (S : sp) (h : am_H) (pd : Int32), MS M n s mem pd h S → JN S → S.1 2 0 0 = c → c < 200 → (∀ i, i < c → 0 ≤ S.2 5 i 0) →
    ∃ h', MS M n s mem pd h' (sp_drop (S.2 0 0 0 + 1) c S) ∧ am_E P 99 162 [some (.ref M), l1, l2] [] h = am_E P 99 209 [some (.ref M), l1, l2] [] h' := by
  intro c
  induction c with
  | zero =>
    intro S h pd hs _ hc _ _
    obtain ⟨f, F, hv, hf, hF, -⟩ := id hs
    have f5 := hf.2.2.2.2.1
    rw [hc] at f5
    refine ⟨h, hs, ?_⟩
    have z : nI 0 ≤ 0 := by decide
    conv => lhs; rw [hd99_162]
    simp only [r99, hv.g, mo_g, f5, Option.bind_some, if_pos z]
  | succ c ih =>
    intro S h pd hs hj hc hb hpos
    obtain ⟨f, F, hv, hf, hF, -⟩ := id hs
    have f4 := hf.2.2.2.1
    have f5 := hf.2.2.2.2.1
    rw [hc] at f5
    obtain ⟨e1, e2⟩ := nI_pos_pred (k := c) (by omega)
    have g7 := hF.2.2.2.2.2.2 c (by omega)
    obtain ⟨m1, m2⟩ := mark_succ hj
    have hcp := hpos c (by omega)
    rw [i_le] at hcp
    have z0 : (0 : Int32).toInt = 0 := rfl
    by_cases hm : S.2 0 0 0 + 1 ≤ S.2 5 c 0
    · have e : sp_drop (S.2 0 0 0 + 1) (c + 1) S = sp_drop (S.2 0 0 0 + 1) c (sN S 2 0 0 c) := by conv => lhs; unfold sp_drop; rw [if_pos hm]
      rw [e]
      obtain ⟨f2, F2, v2, s2⟩ := hs.nb (k := c) (by omega)
      have f5' : f2 27 = nI (c + 1) := by
        have m1 := v2.2.2.1
        have m2 := hv.2.2.1
        rw [m1] at m2
        have := congrArg (fun q => match q with | .inr (.inr (.inl (_, fs))) => (fs : List Value)[27]? | _ => none) m2
        simp only [mo_g, Option.some.injEq, Value.int.injEq] at this
        rw [this]; exact f5
      have hjn : JN (sN S 2 0 0 c) := hj.same (fun a b d q => by rw [sN_1, if_neg (by omega)]) (fun _ _ _ _ => rfl) rfl rfl (fun _ => rfl) hj.1.2.1 hj.1.2.2.2.2.2.2.1
      obtain ⟨h', i1, i2⟩ := ih (sN S 2 0 0 c) _ pd s2 hjn (by simp [sN_1]) (by omega) (fun i hi => hpos i (by omega))
      refine ⟨h', i1, ?_⟩
      rw [← i2]
      have z2 : ¬ S.2 5 c 0 ≤ S.2 0 0 0 := by
        rw [i_le] at hm ⊢
        omega
      conv => lhs; rw [hd99_162]
      by_cases h6 : S.2 0 0 0 = -6
      · simp only [r99, hv.g, mo_g, f5, Option.bind_some, if_neg e2, f4, h6, if_true]
        simp only [r99, v2.g, mo_g, f5', e1, Option.bind_some, v2.w 27 (by decide), mo_s]
      · simp only [r99, hv.g, mo_g, f5, Option.bind_some, if_neg e2, f4, if_neg h6, e1, hv.ld 23 (by decide) (by decide) (q := c) (show c < 201 by omega), g7, if_neg z2]
        simp only [r99, v2.g, mo_g, f5', e1, Option.bind_some, v2.w 27 (by decide), mo_s]
    · have e : sp_drop (S.2 0 0 0 + 1) (c + 1) S = S := by unfold sp_drop; rw [if_neg hm]
      rw [e]
      refine ⟨h, hs, ?_⟩
      have z2 : S.2 5 c 0 ≤ S.2 0 0 0 := by
        rw [i_le] at hm ⊢
        omega
      have h6 : ¬ S.2 0 0 0 = -6 := by
        intro q
        rw [i_le] at z2
        rw [q, nm_m6] at z2
        omega
      conv => lhs; rw [hd99_162]
      simp only [r99, hv.g, mo_g, f5, Option.bind_some, if_neg e2, f4, if_neg h6, e1, hv.ld 23 (by decide) (by decide) (q := c) (show c < 201 by omega), g7, if_pos z2]
theorem k_openG (P : Nat × Nat) : ∀ (c o : Nat) (S : sp) (h : am_H) (pd : Int32) (l2 : Option Value), MS M n s mem pd h S → JN S → o + c = S.1 0 0 0 →
    ∃ h' l1 l2', MS M n s mem (pd + nI ((sp_openG c o (S.2 0 0 0 + 1) S).1 1 0 0 - S.1 1 0 0)) h' (sp_openG c o (S.2 0 0 0 + 1) S) ∧ am_E P 99 216 [some (.ref M), some (.int (nI o)), l2] [] h = am_E P 99 255 [some (.ref M), l1, l2'] [] h' := by
  intro c
  induction c with
  | zero =>
    intro o S h pd l2 hs hj ho
    obtain ⟨f, F, hv, hf, hF, -⟩ := id hs
    have f1 := hf.1
    have h3 := hj.1.2.2.1
    refine ⟨h, some (.int (nI o)), l2, by show MS M n s mem (pd + nI (S.1 1 0 0 - S.1 1 0 0)) h S; rw [pd_z]; exact hs, ?_⟩
    have c1 : nI (S.1 0 0 0) ≤ nI o := nI_le (by omega) (by omega)
    conv => lhs; rw [hd99_216]
    simp only [r99, hv.g, mo_g, f1, Option.bind_some, if_pos c1]
  | succ c ih =>
    intro o S h pd l2 hs hj ho
    obtain ⟨f, F, hv, hf, hF, -⟩ := id hs
    have f1 := hf.1
    have f4 := hf.2.2.2.1
    have h3 := hj.1.2.2.1
    have c1 : ¬ nI (S.1 0 0 0) ≤ nI o := nI_ge (by omega) (by omega)
    obtain ⟨m1, m2⟩ := mark_succ hj
    have hmm : (if S.2 0 0 0 = -6 then 0 else S.2 0 0 0 + 1) = S.2 0 0 0 + 1 ∨ ((if S.2 0 0 0 = -6 then (0 : Int32) else S.2 0 0 0 + 1) = 0 ∧ S.2 0 0 0 + 1 < 0) := by
      by_cases h6 : S.2 0 0 0 = -6
      · right
        rw [if_pos h6, h6]
        exact ⟨rfl, by decide⟩
      · left; rw [if_neg h6]
    obtain ⟨h1, s1, k1⟩ := k_goes P (o := o) (m := S.2 0 0 0 + 1) (m' := if S.2 0 0 0 = -6 then 0 else S.2 0 0 0 + 1) hmm hs hj (by omega) m2
    obtain ⟨j1, j2, j3⟩ := JN.goes (o := o) (m := S.2 0 0 0 + 1) (S.1 5 o 0) 0 0 S hj (by omega) (Nat.zero_add _) m2
    have e : sp_openG (c + 1) o (S.2 0 0 0 + 1) S = sp_openG c (o + 1) (S.2 0 0 0 + 1) (sp_goes o (S.2 0 0 0 + 1) (S.1 5 o 0) 0 0 S).2 := rfl
    rw [e]
    have Tm : (sp_goes o (S.2 0 0 0 + 1) (S.1 5 o 0) 0 0 S).2.2 0 0 0 = S.2 0 0 0 := j2.2.2.2.2.2.2.2.2.2.2.2.1 0 0 (by decide) (by decide) (by decide)
    have T0 : (sp_goes o (S.2 0 0 0 + 1) (S.1 5 o 0) 0 0 S).2.1 0 0 0 = S.1 0 0 0 := j2.1 0 0 0 (by omega)
    obtain ⟨h', l1, l2', i1, i2⟩ := ih (o + 1) _ h1 _ (some (.int (sp_ans (sp_goes o (S.2 0 0 0 + 1) (S.1 5 o 0) 0 0 S)).1)) s1 j1 (by rw [T0]; omega)
    have hle := (JN.openG (m := S.2 0 0 0 + 1) c (o + 1) _ j1 (by rw [T0]; omega) (by rw [Tm]; exact m2)).2.2.2.2.2.1
    rw [Tm, pd_add j2.2.2.2.2.1 hle] at i1
    refine ⟨h', l1, l2', i1, ?_⟩
    rw [← i2]
    conv => lhs; rw [hd99_216]
    by_cases h6 : S.2 0 0 0 = -6
    · rw [if_pos h6] at k1
      simp only [r99, hv.g, mo_g, f1, Option.bind_some, if_neg c1, f4, if_pos h6, hv.c, if_true, k1, Option.toList_some, List.cons_append, List.nil_append, nI_1]
    · rw [if_neg h6] at k1
      simp only [r99, hv.g, mo_g, f1, Option.bind_some, if_neg c1, f4, if_neg h6, hv.c, if_true, k1, Option.toList_some, List.cons_append, List.nil_append, nI_1]
theorem k_open (P : Nat × Nat) {S : sp} {h : am_H} {pd : Int32} {c : Nat} (hs : MS M n s mem pd h S) (hk : KI S c) (hc : c < 100) : ∃ h' pd', am_E P 99 0 [some (.ref M), none, none] [] h = some (some (.int (sp_open S).1), h') ∧ MS M n s mem pd' h' (sp_open S).2 := by
  obtain ⟨f, F, hv, hf, hF, hpd⟩ := id hs
  have h3 := hk.1.1.1.2.2.1
  have hU := hk.1.1.up
  have v1 := hv.p 31 (-6)
  have v2 := v1.p 30 0
  obtain ⟨h3', F3, e3, v3, w1, w2⟩ := k_empty P v2
  have v4 := v3.p 25 (-6)
  have v5 := v4.p 29 0
  have hfe : ∀ x, va_up (va_up (va_up (va_up f 31 (-6)) 30 0) 25 (-6)) 29 0 x = if x = 29 then 0 else if x = 25 then -6 else if x = 30 then 0 else if x = 31 then -6 else f x := by
    intro x
    simp only [va_up]
  -- the pure state as it is opened
  have hmf : m_f (va_up (va_up (va_up (va_up (va_up (va_up f 31 (-6)) 30 0) 25 (-6)) 29 0) 25 ((sp_up S).2 0 0 0)) 29 ((sp_up S).2 0 1 0)) (sp_up S) := by
    obtain ⟨f1, f2, f3, f4, f5, f6, f7, f8, f9, f10⟩ := hf
    simp [m_f, m_l, va_up, sp_up, sE_1, sE_2, sV_1, sV_2, f1, f2, f3, f5, f6, f10]
  have loop0 : ∀ k i, i + k = S.1 0 0 0 → ∀ h F5, MV M n s mem h (va_up (va_up (va_up (va_up f 31 (-6)) 30 0) 25 (-6)) 29 0) F5 → m_F (va_up F5 5 (fun o => nI ((sp_up S).1 5 o 0))) (sp_up S) → (∀ o, o < i → F5 5 o = 0) → (∀ o, S.1 0 0 0 ≤ o → o < 3 → F5 5 o = 0) →
      ∃ h' F', am_E P 99 28 [some (.ref M), some (.int (nI i)), none] [] h = am_E P 99 51 [some (.ref M), some (.int (nI 0)), none] [] h' ∧ MV M n s mem h' (va_up (va_up (va_up (va_up f 31 (-6)) 30 0) 25 (-6)) 29 0) F' ∧ m_F (va_up F' 5 (fun o => nI ((sp_up S).1 5 o 0))) (sp_up S) ∧ (∀ o, o < 3 → F' 5 o = 0) := by
    intro k
    induction k with
    | zero =>
      intro i hi h F5 hv5 hm hz hz2
      refine ⟨h, F5, ?_, hv5, hm, fun o ho => ?_⟩
      · have c1 : nI (S.1 0 0 0) ≤ nI i := nI_le (by omega) (by omega)
        have f1 : va_up (va_up (va_up (va_up f 31 (-6)) 30 0) 25 (-6)) 29 0 0 = nI (S.1 0 0 0) := by
          rw [hfe]
          simpa using hf.1
        rw [hd99_28]
        simp only [r99, hv5.g, mo_g, f1, Option.bind_some, if_pos c1]
        rfl
      · by_cases hlt : o < i
        · exact hz o hlt
        · exact hz2 o (by omega) ho
    | succ k ih =>
      intro i hi h F5 hv5 hm hz hz2
      have v6 := hv5.a 5 (by decide) (by decide) i 0
      obtain ⟨h', F', i1, i2, i3, i4⟩ := ih (i + 1) (by omega) _ _ v6 (by rw [va_up2]; exact hm) (fun o ho => by
        by_cases hoi : o = i
        · subst hoi; simp [va_up, upd]
        · simp [va_up, upd, hoi, hz o (by omega)]) (fun o ho1 ho2 => by
        have : ¬ o = i := by omega
        simp [va_up, upd, this, hz2 o ho1 ho2])
      refine ⟨h', F', ?_, i2, i3, i4⟩
      rw [← i1]
      have c1 : ¬ nI (S.1 0 0 0) ≤ nI i := nI_ge (by omega) (by omega)
      have f1 : va_up (va_up (va_up (va_up f 31 (-6)) 30 0) 25 (-6)) 29 0 0 = nI (S.1 0 0 0) := by
        rw [hfe]
        simpa using hf.1
      conv => lhs; rw [hd99_28]
      simp only [r99, hv5.g, mo_g, f1, Option.bind_some, if_neg c1, hv5.st 5 (by decide) (by decide) (q := i) (show i < 3 by omega), nI_1]
  have hmF : m_F (va_up F3 5 (fun o => nI ((sp_up S).1 5 o 0))) (sp_up S) := by
    obtain ⟨g1, g2, g3, g4, g5, g6, g7⟩ := hF
    refine ⟨fun o ho => ?_, ?_, ?_, ?_, ?_, ?_, ?_⟩
    · obtain ⟨a1, a2, a3, a4, a5, a6⟩ := g1 o ho
      have z0 : (0 : Int32) = nI 0 := rfl
      simp [va_up, w1, w2 o ho, sp_up, sE_1, sE_2, sV_1, sV_2, a1, a4, a5, a6, ← z0]
    · simpa [va_up, w1, sp_up, sE_1, sE_2, sV_1, sV_2] using g2
    · simpa [va_up, w1, sp_up, sE_1, sE_2, sV_1, sV_2] using g3
    · simpa [va_up, w1, sp_up, sE_1, sE_2, sV_1, sV_2] using g4
    · simpa [va_up, w1, sp_up, sE_1, sE_2, sV_1, sV_2] using g5
    · simpa [va_up, w1, sp_up, sE_1, sE_2, sV_1, sV_2] using g6
    · simpa [va_up, w1, sp_up, sE_1, sE_2, sV_1, sV_2] using g7
  have hz2 : ∀ o, S.1 0 0 0 ≤ o → o < 3 → F3 5 o = 0 := by
    intro o ho1 ho2
    rw [w1 5 (by decide), (hF.1 o ho2).2.2.1, (hk.1.1.1.2.2.2.1 o ho1).1]
    rfl
  obtain ⟨h6, F6, k6, v6, m6, z6⟩ := loop0 _ 0 (Nat.zero_add _) _ F3 v5 hmF (fun o ho => by omega) hz2
  have hnr := (hk.gv hc 0).2
  have U1 : (sp_up S).1 1 0 0 = S.1 1 0 0 := by unfold sp_up; rw [sE_1, if_neg (by decide)]; rfl
  have U0 : (sp_up S).1 0 0 0 = S.1 0 0 0 := by unfold sp_up; rw [sE_1, if_neg (by decide)]; rfl
  have U2 : (sp_up S).1 2 0 0 = S.1 2 0 0 := by unfold sp_up; rw [sE_1, if_neg (by decide)]; rfl
  have Um : (sp_up S).2 0 0 0 = S.2 0 0 0 := by simp [sp_up, sE_2, sV_2]
  obtain ⟨h7, l1, k7, s7⟩ := k_openR (M := M) (n := n) (s := s) (mem := mem) P (S := sp_up S) hU.1.1 (by rw [U0]; exact h3) (by rw [U1]; omega) (l2 := none) ((sp_up S).1 1 0 0) 0 h6 _ F6 (Nat.zero_add _) v6 ⟨hmf, m6⟩ (by rw [hfe]; rfl) (by rw [hfe]; rfl) (fun o ho => by rw [z6 o ho]; rfl)
  obtain ⟨h8, s8, k8⟩ := k_dropO (M := M) (n := n) (s := s) (mem := mem) P (l1 := l1) (l2 := none) ((sp_up S).1 2 0 0) (sp_up S) h7 _ s7 hU rfl (by rw [U2]; have := hk.1.2.2.1; omega) (fun i hi => by
    have e5 : (sp_up S).2 5 i 0 = S.2 5 i 0 := by simp [sp_up, sE_2, sV_2]
    rw [e5]
    rw [U2] at hi
    exact (hk.1.2.2.2.2.2.2.2.1 i hi).1)
  rw [Um, U2] at s8
  obtain ⟨D, hD⟩ : ∃ D, D = sp_drop (S.2 0 0 0 + 1) (S.1 2 0 0) (sp_up S) := ⟨_, rfl⟩
  have jD : JN D := by rw [hD]; exact hU.drop _ _
  obtain ⟨e1, e2⟩ := sp_drop_keep (m := S.2 0 0 0 + 1) (S.1 2 0 0) (sp_up S)
  rw [← hD] at s8 e1 e2
  have D0 : D.1 0 0 0 = S.1 0 0 0 := by rw [e1 0 0 0 (by decide), U0]
  have D1 : D.1 1 0 0 = S.1 1 0 0 := by rw [e1 1 0 0 (by decide), U1]
  have Dm : D.2 0 0 0 = S.2 0 0 0 := by rw [e2, Um]
  obtain ⟨f9, F9, v9, p9, s9⟩ := s8.pdn 0
  obtain ⟨h10, l10, l11, s10, k10⟩ := k_openG (M := M) (n := n) (s := s) (mem := mem) P (S.1 0 0 0) 0 D _ 0 none s9 jD (by rw [D0]; omega)
  rw [Dm] at s10
  have eop : sp_op1 S = sp_openG (S.1 0 0 0) 0 (S.2 0 0 0 + 1) D := by rw [hD]; rfl
  rw [← eop] at s10
  obtain ⟨o1, o2⟩ := hk.op1
  obtain ⟨h11, k11, s11⟩ := k_shown P s10 o1.1.1
  obtain ⟨f12, F12, v12, -, -, p12⟩ := id s11
  have hle := (o1.1.1.shown).2.2.2.2.2.1
  have eans : (sp_open S).1 = f12 33 := by
    rw [p12, D1, pd_add o2 hle, Int32.zero_add]
    rfl
  refine ⟨h11, _, ?_, s11⟩
  rw [eans]
  simp only [r99, hv.w 31 (by decide), mo_s, Option.bind_some]
  simp only [r99, true_or, if_true, v1.w 30 (by decide), mo_s, Option.bind_some, v2.c, e3, Option.toList_none, List.nil_append]
  simp only [r99, v3.w 25 (by decide), mo_s, Option.bind_some]
  simp only [r99, true_or, if_true, v4.w 29 (by decide), mo_s, Option.bind_some]
  have k6' := k6.trans (k7.trans k8)
  have zz : (0 : Int32) = nI 0 := rfl
  rw [← zz] at k6'
  rw [k6']
  simp only [r99, v9.w 33 (by decide), mo_s, Option.bind_some]
  rw [← zz] at k10
  rw [k10]
  simp only [r99, s10.c, if_true, k11, Option.bind_some, Option.toList_some, List.cons_append, List.nil_append, v12.g, mo_g]
end MOp
