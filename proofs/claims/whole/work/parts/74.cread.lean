/-! The class: readers go on. -/
theorem sN_sN (S : sp) (k i j v w : Nat) : sN (sN S k i j v) k i j w = sN S k i j w := by
  unfold sN u3
  refine Prod.ext (funext fun a => funext fun b => funext fun c => ?_) rfl
  show (if a = k ∧ b = i ∧ c = j then w else if a = k ∧ b = i ∧ c = j then v else S.1 a b c) = if a = k ∧ b = i ∧ c = j then w else S.1 a b c
  split <;> rfl
section CRd
variable {P : Nat × Nat} {fx : Nat → Prop} {mem : Nat → am_C} {K : Nat × Nat} {ad : Nat → Nat → Nat → Nat} {h : am_H} {S : sp} {X c : Nat}
theorem SO.n8 {r v : Nat} : SO P ad ad S (sN S 8 r 0 v) (fun k i j => (k = 21 ∨ k = 22) ∧ i = r ∧ j = 0) := by
  intro k i j hl hN
  rcases k23 hl with rfl | rfl | rfl | rfl | rfl | rfl | rfl | rfl | rfl | rfl | rfl | rfl | rfl | rfl | rfl | rfl | rfl | rfl | rfl | rfl | rfl | rfl | rfl
  all_goals first
    | exact ⟨hl, rfl, fun c hc => hc⟩
    | skip
  · have hi : ¬ i = r := fun x => hN ⟨Or.inl rfl, x, hl.2⟩
    refine ⟨hl, rfl, fun c hc => ?_⟩
    show c = ac_O 6 [.ref (ad 14 (S.1 7 i 0) 0), .ref (ad 22 i 0), .int (nI ((sN S 8 r 0 v).1 8 i 0))]
    rw [sN_1, if_neg (fun x => hi x.2.1)]
    exact hc
  · have hi : ¬ i = r := fun x => hN ⟨Or.inr rfl, x, hl.2⟩
    refine ⟨hl, rfl, fun c hc => ?_⟩
    have e8 : (sN S 8 r 0 v).1 8 i 0 = S.1 8 i 0 := by rw [sN_1, if_neg (fun x => hi x.2.1)]
    obtain ⟨b1, f, b2, b3⟩ := hc
    refine ⟨by rw [e8]; exact b1, f, b2, fun k hk => ?_⟩
    rw [e8, q_cnt_cg (S := S) (S' := sN S 8 r 0 v) _ (fun _ _ => rfl)]
    exact b3 k hk
theorem c_goOn {r n ro : Nat} (hn : n ≤ 100) : ∀ (t went : Nat) (S : sp) (h : am_H) (l3 : Option Value), CW P fx mem K ad h S → r < S.1 3 0 0 → S.1 7 r 0 = ro → ro < S.1 0 0 0 → (∀ i, i < S.1 6 ro 0 → 0 ≤ S.2 6 ro i ∧ S.2 6 ro i < 10) → S.1 6 ro 0 ≤ 20000 → went + t ≤ n → S.1 8 r 0 + t ≤ S.1 6 ro 0 → (went + t = n ∨ S.1 8 r 0 + t = S.1 6 ro 0) →
    ∃ h', am_E P 22 2 [some (.ref (ad 21 r 0)), some (.int (nI n)), some (.int (nI went)), l3] [] h = some (some (.int (nI (went + t))), h') ∧ CW P fx mem K ad h' (sN S 8 r 0 (S.1 8 r 0 + t)) := by
  intro t
  induction t with
  | zero =>
    intro went S h l3 hv hr hro ho hkey hl h1 h2 h3
    refine ⟨h, ?_, by rw [sN_same S (k := 8) (Nat.add_zero _).symm]; exact hv⟩
    have rd := hv.rd hr
    rw [hro] at rd
    rw [hd22_2]
    by_cases hw : went = n
    · have c1 : nI n ≤ nI went := nI_le (by omega) (by omega)
      simp only [r22, if_pos c1, Nat.add_zero]
    · have c1 : ¬ nI n ≤ nI went := nI_ge (by omega) (by omega)
      have c2 : nI (S.1 6 ro 0) ≤ nI (S.1 8 r 0) := nI_le (by omega) (by omega)
      simp only [r22, if_neg c1, o3 rd, Option.bind_some, hv.cntL ho, if_true, Option.toList, List.nil_append, List.cons_append, if_pos c2, Nat.add_zero]
  | succ t ih =>
    intro went S h l3 hv hr hro ho hkey hl h1 h2 h3
    have rd := hv.rd hr
    rw [hro] at rd
    obtain ⟨b1, f, b2, b3⟩ := hv.rk hr
    rw [hro] at b1 b3
    have hpos : S.1 8 r 0 < S.1 6 ro 0 := by omega
    obtain ⟨e, N, g, hw, hg⟩ := hv.rwL ho hl
    obtain ⟨q, hq, eq, cq⟩ := key_nat (hkey _ hpos)
    have gc : am_E P 26 0 [some (.ref (ad 14 ro 0)), some (.int (nI (S.1 8 r 0))), some (.int 0)] [] h = some (some (.int (nI q)), h) := by
      have := c_cell P hw (i := S.1 8 r 0) (c := 0) hpos (by decide)
      rw [Nat.add_zero, (hg _ hpos).1, eq] at this
      exact this
    have c1 : ¬ nI n ≤ nI went := nI_ge (by omega) (by omega)
    have c2 : ¬ nI (S.1 6 ro 0) ≤ nI (S.1 8 r 0) := nI_ge hpos (by omega)
    have c0 : ¬ (nI q < 0 ∨ 10 ≤ nI q) := by
      rintro (e | e)
      · exact nI_pos (by omega) e
      · exact nI_ge (b := 10) hq (by decide) e
    have c01 : ¬ (1 : Int32) = 0 := by decide
    have n1 : ad 22 r 0 ≠ ad 21 r 0 := hv.ne (k := 22) (k' := 21) ⟨hr, rfl⟩ ⟨hr, rfl⟩ (fun _ => rfl) (fun _ => rfl) (fun x => absurd x.1 (by decide))
    have y21 : (ah_put h (ad 22 r 0) (ac_I 10 (upd f q (f q + 1)))).2.2 (ad 21 r 0) = ac_O 6 [.ref (ad 14 ro 0), .ref (ad 22 r 0), .int (nI (S.1 8 r 0))] := by rw [ah_ne (Ne.symm n1)]; exact rd
    have e8 : (sN S 8 r 0 (S.1 8 r 0 + 1)).1 8 r 0 = S.1 8 r 0 + 1 := by simp [sN_1]
    have v1 : CW P fx mem K ad (ah_put (ah_put h (ad 22 r 0) (ac_I 10 (upd f q (f q + 1)))) (ad 21 r 0) (ac_O 6 [.ref (ad 14 ro 0), .ref (ad 22 r 0), .int (nI (S.1 8 r 0 + 1))])) (sN S 8 r 0 (S.1 8 r 0 + 1)) := by
      refine hv.puts (fun a i j => (a = 21 ∨ a = 22) ∧ i = r ∧ j = 0) (fun _ => SO.n8) (fun a i j hN ae => ?_) (fun a i j hN hl => ?_) rfl rfl (fun a ha => ?_) (fun a i j hN hl ae => ?_) rfl rfl
      · rcases hN with ⟨rfl | rfl, -, -⟩ <;> rfl
      · rcases hN with ⟨rfl | rfl, -, -⟩ <;> exact hl
      · rw [ah_ne (ha 21 r 0 ⟨by simp, rfl, rfl⟩ ⟨hr, rfl⟩), ah_ne (ha 22 r 0 ⟨by simp, rfl, rfl⟩ ⟨hr, rfl⟩)]
      · rcases hN with ⟨rfl | rfl, rfl, rfl⟩
        · rw [ah_same]
          show _ = ac_O 6 [.ref (ad 14 (S.1 7 i 0) 0), .ref (ad 22 i 0), .int (nI ((sN S 8 i 0 (S.1 8 i 0 + 1)).1 8 i 0))]
          rw [e8, hro]
        · rw [ah_ne n1, ah_same]
          have e7 : (sN S 8 i 0 (S.1 8 i 0 + 1)).1 7 i 0 = ro := hro
          refine ⟨by rw [e8, e7]; show S.1 8 i 0 + 1 ≤ S.1 6 ro 0; omega, _, rfl, fun k hk => ?_⟩
          rw [e8, e7]
          unfold q_cnt
          rw [q_cnt_cg (S := S) (S' := sN S 8 i 0 (S.1 8 i 0 + 1)) _ (fun _ _ => rfl), show (sN S 8 i 0 (S.1 8 i 0 + 1)).2 6 ro (S.1 8 i 0) = nI q from eq]
          by_cases hkq : k = q
          · subst hkq
            simp only [upd, if_true]
            rw [b3 k hk, nI_1]
          · have : ¬ nI q = nI k := fun x => hkq ((nI_eq (by omega) (by omega)).mp x).symm
            simp only [upd, hkq, if_false, if_neg this, Nat.add_zero]
            exact b3 k hk
    obtain ⟨h', e1, v2⟩ := ih (went + 1) (sN S 8 r 0 (S.1 8 r 0 + 1)) _ (some (.int (nI q))) v1 hr hro ho hkey hl (by omega) (by rw [e8]; show S.1 8 r 0 + 1 + t ≤ S.1 6 ro 0; omega) (by rw [e8]; show went + 1 + t = n ∨ S.1 8 r 0 + 1 + t = S.1 6 ro 0; omega)
    rw [sN_sN, e8] at v2
    rw [show S.1 8 r 0 + (t + 1) = S.1 8 r 0 + 1 + t by omega, show went + (t + 1) = went + 1 + t by omega]
    refine ⟨h', ?_, v2⟩
    refine Eq.trans ?_ e1
    conv => lhs; rw [hd22_2]
    simp only [r22, if_neg c1, o3 rd, Option.bind_some, hv.cntL ho, if_true, Option.toList, List.nil_append, List.cons_append, if_neg c2, gc, c_isKey, if_neg c0, if_neg c01, iald_I b2 hq (by decide), iast_I b2 hq (by decide), o3 y21, nI_1]
theorem cc_read (hz : CZ P fx mem K X h S) (hk : KI S c) (hc : c < 100) (r n : Int32) : ∃ h', am_E P 48 0 [some (.ref X), some (.int r), some (.int n), none] [] h = some (some (.int (sp_read S r n).1), h') ∧ CZ P fx mem (K.1 + 100, K.2 + 10000) X h' (sp_read S r n).2 := by
  obtain ⟨ad, rfl, hv⟩ := hz
  obtain ⟨a1, a2, a3, a4, a5, a6, a7, a8, a9, a10, a11⟩ := hk.1
  have ha := c_rdAt hv a11.1 r
  unfold sp_read
  cases hx : am_ix r (S.1 3 0 0) with
  | none =>
    rw [hx] at ha
    refine ⟨h, ?_, hv.z rfl⟩
    simp only [r48, cl_of hv.x, if_true, ha, Option.bind_some, Option.toList, List.nil_append, List.cons_append]
  | some r' =>
    rw [hx] at ha
    have hr := (ix_some hx).1
    simp only at ha ⊢
    by_cases hq : n < 1 ∨ 100 < n
    · rw [if_pos hq]
      refine ⟨h, ?_, hv.z rfl⟩
      by_cases h1 : n < 1
      · simp only [r48, cl_of hv.x, if_true, ha, Option.bind_some, Option.toList, List.nil_append, List.cons_append, if_pos h1]
      · have h2 : ¬ n ≤ 100 := Int32.not_le.mpr (hq.resolve_left h1)
        simp only [r48, cl_of hv.x, if_true, ha, Option.bind_some, Option.toList, List.nil_append, List.cons_append, if_neg h1, if_neg h2]
    · rw [if_neg hq]
      have h1 : ¬ n < 1 := fun e => hq (Or.inl e)
      have h2 : n ≤ 100 := Int32.not_lt.mp (fun e => hq (Or.inr e))
      obtain ⟨n', hn', rfl⟩ := nI_of2 (M := 100) (n := 100) rfl (fun e => h1 (by rw [i_lt] at e ⊢; have z0 : (0 : Int32).toInt = 0 := rfl; have z1 : (1 : Int32).toInt = 1 := rfl; omega)) h2
      rw [nI_clamp (show n' < 2 ^ 31 by omega)]
      obtain ⟨b1, b2, b3⟩ := a11.2 r' hr
      have hL : iL S (S.1 7 r' 0) := (a1.1.2.2.2.2.2.1 _ b1).2.1 b2
      have hle := q_more_le S r' n'
      have hll := a1.1.lines (S.1 7 r' 0)
      have hnr := a1.nr
      obtain ⟨h', e1, v1⟩ := c_goOn (r := r') (n := n') (ro := S.1 7 r' 0) hn' (q_more S r' n') 0 S h none hv hr rfl b1 hL.2.2.2.2 (by omega) (by omega) (by omega) (by
        unfold q_more
        split <;> omega)
      rw [Nat.zero_add] at e1
      refine ⟨h', ?_, v1.z rfl⟩
      have go : am_E P 22 0 [some (.ref (ad 21 r' 0)), some (.int (nI n')), none, none] [] h = some (some (.int (nI (q_more S r' n'))), h') := by
        refine Eq.trans ?_ e1
        simp only [r22]
        rfl
      simp only [r48, cl_of hv.x, if_true, ha, Option.bind_some, Option.toList, List.nil_append, List.cons_append, if_neg h1, if_pos h2, cl_of (hv.rd hr), go]
end CRd
