/-! The class: a part comes out. -/
section CSh
variable {P : Nat × Nat} {fx : Nat → Prop} {mem : Nat → am_C} {K : Nat × Nat} {ad : Nat → Nat → Nat → Nat} {h : am_H} {S : sp}
theorem SO.g14 {o p v : Nat} : SO P ad ad S (sN S 14 o p v) (fun _ _ _ => False) := by
  intro k i j hl hN
  rcases k23 hl with rfl | rfl | rfl | rfl | rfl | rfl | rfl | rfl | rfl | rfl | rfl | rfl | rfl | rfl | rfl | rfl | rfl | rfl | rfl | rfl | rfl | rfl | rfl
  all_goals first
    | exact ⟨hl, rfl, fun c hc => hc⟩
    | exact ⟨hl, rfl, fun c hc => by refine ok22 ?_ ?_ ?_ ?_ hc <;> (intros; rfl)⟩
theorem SO.g15 {o p v : Nat} : SO P ad ad S (sN S 15 o p v) (fun _ _ _ => False) := by
  intro k i j hl hN
  rcases k23 hl with rfl | rfl | rfl | rfl | rfl | rfl | rfl | rfl | rfl | rfl | rfl | rfl | rfl | rfl | rfl | rfl | rfl | rfl | rfl | rfl | rfl | rfl | rfl
  all_goals first
    | exact ⟨hl, rfl, fun c hc => hc⟩
    | exact ⟨hl, rfl, fun c hc => by refine ok22 ?_ ?_ ?_ ?_ hc <;> (intros; rfl)⟩
theorem CW.gh {A : sp} {o p pl : Nat} (hv : CW P fx mem K ad h S) : CW P fx mem K ad h (sp_gh A S o p pl) := by
  unfold sp_gh
  have h1 : CW P fx mem K ad h (if A.1 15 o p = 0 then sN S 14 o p (A.1 6 o 0) else S) := by
    split
    · exact hv.cong (fun _ => SO.g14) rfl rfl
    · exact hv
  exact h1.cong (fun _ => SO.g15) rfl rfl
theorem SO.v1 {o a : Nat} (ha : a ≠ 0) (v : Int32) : SO P ad ad S (sV S 1 o a v) (fun k i j => k = 9 ∧ i = o ∧ j = 0) := by
  intro k i j hl hN
  rcases k23 hl with rfl | rfl | rfl | rfl | rfl | rfl | rfl | rfl | rfl | rfl | rfl | rfl | rfl | rfl | rfl | rfl | rfl | rfl | rfl | rfl | rfl | rfl | rfl
  all_goals first
    | exact ⟨hl, rfl, fun c hc => hc⟩
    | exact ⟨hl, rfl, fun c hc => by refine ok22 ?_ ?_ ?_ ?_ hc <;> (intros; rfl)⟩
    | skip
  · have hi : ¬ i = o := fun e => hN ⟨rfl, e, hl.2⟩
    refine ⟨hl, rfl, fun c hc => ?_⟩
    show c = ac_O 4 [.int (nI i), .int ((sV S 1 o a v).2 1 i 0), .ref (ad 10 i 0), .ref (ad 11 i 0), .int (nI (S.1 4 i 0)), .ref (ad 12 i 0), .int ((sV S 1 o a v).2 1 i 1), .int ((sV S 1 o a v).2 1 i 2), .ref (ad 14 i 0), .ref (ad 16 i 0)]
    rw [sV_2, sV_2, sV_2, if_neg (fun x => hi x.2.1), if_neg (fun x => hi x.2.1), if_neg (fun x => hi x.2.1)]
    exact hc
  · refine ⟨hl, rfl, fun c hc => ⟨fun hz => hc.1 ?_, hc.2⟩⟩
    rw [sV_2, if_neg (fun x => ha x.2.2.symm)] at hz
    exact hz
/-- tryFails -/
theorem c_try (hv : CW P fx mem K ad h S) {o : Nat} (ho : o < S.1 0 0 0) (h0 : 0 ≤ S.2 1 o 2) : ∃ h', am_E P 14 0 [some (.ref (ad 9 o 0))] [] h = some (some (.int (if 0 < S.2 1 o 2 then 1 else 0)), h') ∧ CW P fx mem K ad h' (if 0 < S.2 1 o 2 then sV (sp_try S o) 1 o 2 (S.2 1 o 2 - 1) else sp_try S o) := by
  have v1 := hv.put 9 o 0 (fun _ => rfl) ⟨ho, rfl⟩ (S' := sp_try S o) (fun _ => SO.v1 (by decide) _) (c := ac_O 4 [.int (nI o), .int (S.2 1 o 0), .ref (ad 10 o 0), .ref (ad 11 o 0), .int (nI (S.1 4 o 0)), .ref (ad 12 o 0), .int (S.2 1 o 1 + 1), .int (S.2 1 o 2), .ref (ad 14 o 0), .ref (ad 16 o 0)]) (fun ae => by
    show _ = ac_O 4 [.int (nI o), .int ((sV S 1 o 1 (S.2 1 o 1 + 1)).2 1 o 0), .ref (ad 10 o 0), .ref (ad 11 o 0), .int (nI (S.1 4 o 0)), .ref (ad 12 o 0), .int ((sV S 1 o 1 (S.2 1 o 1 + 1)).2 1 o 1), .int ((sV S 1 o 1 (S.2 1 o 1 + 1)).2 1 o 2), .ref (ad 14 o 0), .ref (ad 16 o 0)]
    simp [sV_2]) rfl rfl
  by_cases hz : S.2 1 o 2 = 0
  · have hn : ¬ 0 < S.2 1 o 2 := by rw [hz]; decide
    rw [if_neg hn, if_neg hn]
    refine ⟨_, ?_, v1⟩
    simp only [r14, o10 (hv.ou ho), Option.bind_some, o10 (ah_same h (ad 9 o 0) _), if_pos hz, true_or, if_true]
  · have hn : 0 < S.2 1 o 2 := by
      refine Int32.not_le.mp (fun e => hz (Int32.le_antisymm e h0))
    rw [if_pos hn, if_pos hn]
    have v2 := v1.put 9 o 0 (fun _ => rfl) ⟨ho, rfl⟩ (S' := sV (sp_try S o) 1 o 2 (S.2 1 o 2 - 1)) (fun _ => SO.v1 (by decide) _) (c := ac_O 4 [.int (nI o), .int (S.2 1 o 0), .ref (ad 10 o 0), .ref (ad 11 o 0), .int (nI (S.1 4 o 0)), .ref (ad 12 o 0), .int (S.2 1 o 1 + 1), .int (S.2 1 o 2 - 1), .ref (ad 14 o 0), .ref (ad 16 o 0)]) (fun ae => by
      show _ = ac_O 4 [.int (nI o), .int ((sV (sV S 1 o 1 (S.2 1 o 1 + 1)) 1 o 2 (S.2 1 o 2 - 1)).2 1 o 0), .ref (ad 10 o 0), .ref (ad 11 o 0), .int (nI (S.1 4 o 0)), .ref (ad 12 o 0), .int ((sV (sV S 1 o 1 (S.2 1 o 1 + 1)) 1 o 2 (S.2 1 o 2 - 1)).2 1 o 1), .int ((sV (sV S 1 o 1 (S.2 1 o 1 + 1)) 1 o 2 (S.2 1 o 2 - 1)).2 1 o 2), .ref (ad 14 o 0), .ref (ad 16 o 0)]
      simp [sV_2]) rfl rfl
    refine ⟨_, ?_, v2⟩
    simp only [r14, o10 (hv.ou ho), Option.bind_some, o10 (ah_same h (ad 9 o 0) _), if_neg hz, ah_put2, or_true, if_true]
/-- a part's end: its record -/
def sp_shp (o p : Nat) (q : Option Nat × sp) : Option Nat × sp := match q with
  | (none, T) => (none, T)
  | (some w, T) => if (sp_rec T 3 (nI o) (nI p) (-6) (-6)).1 = true then (some w, sN (sp_rec T 3 (nI o) (nI p) (-6) (-6)).2 11 o p 2) else (none, (sp_rec T 3 (nI o) (nI p) (-6) (-6)).2)
theorem showP_shp (S : sp) (o p : Nat) : sp_showP S o p = sp_shp o p (sp_showR o p (S.1 10 o p) 0 0 S) := by
  unfold sp_showP sp_shp
  rfl
theorem c_showR {o p : Nat} : ∀ (c pl w : Nat) (S : sp) (h : am_H) (l5 l6 l7 : Option Value), CW P fx mem K ad h S → JN S → o < S.1 0 0 0 → p < S.1 5 o 0 → S.1 11 o p = 1 → S.2 13 o p ≤ S.2 0 0 0 → (∀ q, q < p → S.1 11 o q ≠ 1) → pl + c = S.1 10 o p → pl ≤ S.1 15 o p →
    ∃ h', am_E P 68 5 [some (.ref (ad 0 0 0)), some (.ref (ad 9 o 0)), some (.ref (ad 20 o p)), some (.int (nI w)), some (.int (nI pl)), l5, l6, l7] [] h = some (some (.int (sp_ans (sp_shp o p (sp_showR o p c pl w S))).1), h') ∧ CW P fx mem K ad h' (sp_shp o p (sp_showR o p c pl w S)).2 := by
  intro c
  induction c with
  | zero =>
    intro pl w S h l5 l6 l7 hv hj ho hp hs hpm hprev hpl hlc
    have h3 : S.1 0 0 0 ≤ 3 := hj.1.2.2.1
    have h20 := (hj.1.2.2.2.2.1 o p ho hp).2.1
    obtain ⟨x, y, hpt⟩ := hv.pt ho hp
    obtain ⟨h1, e1, v1⟩ := c_rec hv h3 (by have := hj.nr; omega) 3 (nI o) (nI p) (-6) (-6)
    have c1 : nI (S.1 10 o p) ≤ nI pl := nI_le (by omega) (by omega)
    have c01 : ¬ (1 : Int32) = 0 := by decide
    rw [show sp_showR o p 0 pl w S = (some w, S) from rfl]
    unfold sp_shp
    by_cases ht : (sp_rec S 3 (nI o) (nI p) (-6) (-6)).1 = true
    · rw [if_pos ht] at e1
      simp only [if_pos ht]
      have ho1 : o < (sp_rec S 3 (nI o) (nI p) (-6) (-6)).2.1 0 0 0 := by rw [sr_N (by decide) (by decide)]; exact ho
      have hp1 : p < (sp_rec S 3 (nI o) (nI p) (-6) (-6)).2.1 5 o 0 := by rw [sr_N (by decide) (by decide)]; exact hp
      have hs1 : (sp_rec S 3 (nI o) (nI p) (-6) (-6)).2.1 11 o p = 1 := by rw [sr_N (by decide) (by decide)]; exact hs
      obtain ⟨x1, y1, hpt1⟩ := v1.pt ho1 hp1
      generalize (sp_rec S 3 (nI o) (nI p) (-6) (-6)).2 = T at *
      have v2 := v1.put 20 o p (fun _ => rfl) ⟨ho1, hp1⟩ (S' := sN T 11 o p 2) (fun _ => SO.n11) (c := ac_O 5 [.int (nI p), .int (nI (T.1 9 o p)), .int (nI (T.1 10 o p)), .int (if T.1 11 o p = 0 then -6 else T.2 13 o p), .int 2, .int x1, .int y1]) (fun ae => ⟨x1, y1, by simp [sN_1, sN_2, hs1]; rfl⟩) rfl rfl
      refine ⟨_, ?_, v2⟩
      rw [hd68_5]
      simp only [r68, o7 hpt, Option.bind_some, if_pos c1, o10 (hv.ou ho), cl_of hv.x, if_true, e1, Option.toList, List.nil_append, List.cons_append, if_neg c01, o7 hpt1]
      rfl
    · rw [if_neg ht] at e1
      simp only [if_neg ht]
      refine ⟨h1, ?_, v1⟩
      rw [hd68_5]
      simp only [r68, o7 hpt, Option.bind_some, if_pos c1, o10 (hv.ou ho), cl_of hv.x, if_true, e1, Option.toList, List.nil_append, List.cons_append]
      rfl
  | succ c ih =>
    intro pl w S h l5 l6 l7 hv hj ho hp hs hpm hprev hpl hlc
    have h3 : S.1 0 0 0 ≤ 3 := hj.1.2.2.1
    have h20 := (hj.1.2.2.2.2.1 o p ho hp).2.1
    obtain ⟨x, y, hpt⟩ := hv.pt ho hp
    obtain ⟨h1, e1, v1⟩ := c_act hv h3
    have c1 : ¬ nI (S.1 10 o p) ≤ nI pl := nI_ge (by omega) (by omega)
    have c01 : ¬ (1 : Int32) = 0 := by decide
    by_cases ht : (sp_act S).1 = true
    · have er : sp_showR o p (c + 1) pl w S = sp_showR o p c (pl + 1) (w + (sp_come (sp_act S).2 o p pl (S.1 9 o p + pl)).1) (sp_come (sp_act S).2 o p pl (S.1 9 o p + pl)).2 := by
        conv => lhs; unfold sp_showR
        rw [if_pos ht]
      rw [er]
      rw [if_pos ht] at e1
      have ha := hj.act
      have e9 : (sp_act S).2.1 9 o p = S.1 9 o p := sa_N (by decide)
      have hn := ha.nr
      obtain ⟨k1, k2, k3, k4, k5⟩ := sp_come_keep (S := (sp_act S).2) (o := o) (p := p) (pl := pl) (r := S.1 9 o p + pl)
      have ho1 : o < (sp_act S).2.1 0 0 0 := by rw [sa_N (by decide)]; exact ho
      have hp1 : p < (sp_act S).2.1 5 o 0 := by rw [sa_N (by decide)]; exact hp
      have hc := ha.1.come (o := o) (p := p) (pl := pl) (by omega) ho1 hp1 (by rw [sa_N (by decide)]; exact hs) (by rw [sa_V (by decide), sa_V0 (by decide) (by decide) (by decide)]; exact hpm) (fun q hq => by rw [sa_N (by decide)]; exact hprev q hq) (by rw [sa_N (by decide)]; exact hlc) (by rw [sa_N (by decide)]; omega)
      rw [e9] at hc
      have hJ : JN (sp_come (sp_act S).2 o p pl (S.1 9 o p + pl)).2 := ⟨hc.1, by
        rw [PD_same (k1 1 0 0 (by decide) (by decide) (by decide)) (fun b => k1 5 b 0 (by decide) (by decide) (by decide)) (fun b q => k1 11 b q (by decide) (by decide) (by decide))]
        exact ha.2⟩
      have N : ∀ a b d, a ≠ 4 → a ≠ 6 → a ≠ 14 → a ≠ 15 → (sp_come (sp_act S).2 o p pl (S.1 9 o p + pl)).2.1 a b d = S.1 a b d := fun a b d h4 h6 h14 h15 => by rw [k1 a b d h6 h14 h15]; exact sa_N h4
      have V : ∀ a b d, (a ≠ 0 ∧ a < 6) ∨ a = 13 → (sp_come (sp_act S).2 o p pl (S.1 9 o p + pl)).2.2 a b d = S.2 a b d := fun a b d hh => by rw [k3 a b d (by omega)]; exact sa_V (by omega)
      have V0 : ∀ b d, b ≠ 2 → b ≠ 3 → b ≠ 4 → (sp_come (sp_act S).2 o p pl (S.1 9 o p + pl)).2.2 0 b d = S.2 0 b d := fun b d h2 h3 h4 => by rw [k3 0 b d (by omega)]; exact sa_V0 h2 h3 h4
      have hco := hj.1.1.1 o p (by omega) hp
      have hg : S.1 5 o 0 < 1000 := hj.1.1.2.2.1 o (by omega)
      have hrn : S.1 9 o p + pl < S.1 1 0 0 := by have := hco.2.2.2.2.1; omega
      have hrow : S.2 4 (S.1 9 o p + pl) 0 = 0 := ((hco.2.2.2.1 (S.1 9 o p + pl) hrn).mpr ⟨by omega, by omega⟩).1
      have hkey : 0 ≤ S.2 4 (S.1 9 o p + pl) 3 ∧ S.2 4 (S.1 9 o p + pl) 3 < 10 := hj.1.1.2.2.2.2.1 _ hrn hrow
      obtain ⟨x1, y1, hpt1⟩ := v1.pt ho1 hp1
      have come : ∃ h2, CW P fx mem K ad h2 (sp_come (sp_act S).2 o p pl (S.1 9 o p + pl)).2 ∧ am_E P 68 5 [some (.ref (ad 0 0 0)), some (.ref (ad 9 o 0)), some (.ref (ad 20 o p)), some (.int (nI w)), some (.int (nI pl)), l5, l6, l7] [] h = am_E P 68 102 [some (.ref (ad 0 0 0)), some (.ref (ad 9 o 0)), some (.ref (ad 20 o p)), some (.int (nI w)), some (.int (nI pl)), some (.int (S.2 4 (S.1 9 o p + pl) 3)), some (.int (S.2 4 (S.1 9 o p + pl) 4)), l7] [.int (nI (sp_come (sp_act S).2 o p pl (S.1 9 o p + pl)).1)] h2 := by
        obtain ⟨e, N0, f, hw, hf⟩ := v1.rwD (by omega)
        have g3 : am_E P 26 0 [some (.ref (ad 5 0 0)), some (.int (nI (S.1 9 o p + pl))), some (.int 3)] [] h1 = some (some (.int (S.2 4 (S.1 9 o p + pl) 3)), h1) := by
          have := c_cell P hw (i := S.1 9 o p + pl) (c := 3) (by rw [sa_N (by decide)]; exact hrn) (by decide)
          rw [hf _ 3 (by rw [sa_N (by decide)]; exact hrn) (by decide), sa_V (by decide)] at this
          exact this
        have g4 : am_E P 26 0 [some (.ref (ad 5 0 0)), some (.int (nI (S.1 9 o p + pl))), some (.int 4)] [] h1 = some (some (.int (S.2 4 (S.1 9 o p + pl) 4)), h1) := by
          have := c_cell P hw (i := S.1 9 o p + pl) (c := 4) (by rw [sa_N (by decide)]; exact hrn) (by decide)
          rw [hf _ 4 (by rw [sa_N (by decide)]; exact hrn) (by decide), sa_V (by decide)] at this
          exact this
        rw [e9] at hpt1
        have es3 : (sp_act S).2.2 4 (S.1 9 o p + pl) 3 = S.2 4 (S.1 9 o p + pl) 3 := sa_V (by decide)
        have es4 : (sp_act S).2.2 4 (S.1 9 o p + pl) 4 = S.2 4 (S.1 9 o p + pl) 4 := sa_V (by decide)
        have ou1 := v1.ou ho1
        by_cases hs0 : (sp_act S).2.2 1 o 0 = 0
        · have hL : iL (sp_act S).2 o := (ha.1.2.2.2.2.2.1 o ho1).2.1 hs0
          have hll := ha.1.lines o
          obtain ⟨h2, e2, v2⟩ := c_ltake v1 (p := p) (pl := pl) (r := S.1 9 o p + pl) ho1 (by rw [sa_N (by decide)]; exact h3) hL (by omega) (by rw [sa_N (by decide)]; exact hg) (by omega)
          rw [es3, es4] at e2
          have ec : sp_come (sp_act S).2 o p pl (S.1 9 o p + pl) = ((sp_line (sp_act S).2 o p pl (S.1 9 o p + pl)).1, sp_gh (sp_act S).2 (sp_line (sp_act S).2 o p pl (S.1 9 o p + pl)).2 o p pl) := by
            unfold sp_come
            rw [if_pos hs0]
          rw [ec]
          refine ⟨h2, v2.gh, ?_⟩
          rw [hd68_5]
          simp only [r68, o7 hpt, Option.bind_some, if_neg c1, cl_of hv.x, if_true, e1, Option.toList, List.nil_append, List.cons_append, if_neg c01, o9 v1.x, v1.cntD, o7 hpt1, nI_add, g3, g4, o10 ou1, if_pos hs0, (v1.cntL ho1).2, e2]
        · obtain ⟨h2, e2, v2⟩ := c_ttake v1 (p := p) (pl := pl) (r := S.1 9 o p + pl) ho1 hs0 (by omega) (by rw [es3]; exact hkey)
          rw [es3, es4] at e2
          have ec : sp_come (sp_act S).2 o p pl (S.1 9 o p + pl) = ((sp_last (sp_act S).2 o p pl (S.1 9 o p + pl)).1, sp_gh (sp_act S).2 (sp_last (sp_act S).2 o p pl (S.1 9 o p + pl)).2 o p pl) := by
            unfold sp_come
            rw [if_neg hs0]
          rw [ec]
          refine ⟨h2, v2.gh, ?_⟩
          rw [hd68_5]
          simp only [r68, o7 hpt, Option.bind_some, if_neg c1, cl_of hv.x, if_true, e1, Option.toList, List.nil_append, List.cons_append, if_neg c01, o9 v1.x, v1.cntD, o7 hpt1, nI_add, g3, g4, o10 ou1, if_neg hs0, o4 (v1.tb ho1), e2]
      obtain ⟨h2, v2, e2⟩ := come
      generalize sp_come (sp_act S).2 o p pl (S.1 9 o p + pl) = R at *
      obtain ⟨t, T⟩ := R
      simp only at v2 e2 k4 hJ N V V0 hc ⊢
      obtain ⟨h', e3, v3⟩ := ih (pl + 1) (w + t) T h2 (some (.int (S.2 4 (S.1 9 o p + pl) 3))) (some (.int (S.2 4 (S.1 9 o p + pl) 4))) (some (.int (nI t))) v2 hJ (by rw [N 0 0 0 (by decide) (by decide) (by decide) (by decide)]; exact ho) (by rw [N 5 o 0 (by decide) (by decide) (by decide) (by decide)]; exact hp) (by rw [N 11 o p (by decide) (by decide) (by decide) (by decide)]; exact hs) (by rw [V 13 o p (by omega), V0 0 0 (by decide) (by decide) (by decide)]; exact hpm) (fun q hq => by rw [N 11 o q (by decide) (by decide) (by decide) (by decide)]; exact hprev q hq) (by rw [N 10 o p (by decide) (by decide) (by decide) (by decide)]; omega) hc.2
      refine ⟨h', ?_, v3⟩
      rw [e2]
      have ht01 : t = 0 ∨ t = 1 := by omega
      refine Eq.trans ?_ e3
      rcases ht01 with rfl | rfl
      · have c3 : nI 0 = 0 := rfl
        simp only [r68, c3, if_true, nI_1, Nat.add_zero]
      · have c3 : ¬ nI 1 = 0 := by decide
        simp only [r68, if_neg c3, nI_1]
    · have er : sp_showR o p (c + 1) pl w S = (none, (sp_act S).2) := by
        conv => lhs; unfold sp_showR
        rw [if_neg ht]
      rw [er]
      rw [if_neg ht] at e1
      refine ⟨h1, ?_, v1⟩
      rw [hd68_5]
      simp only [r68, o7 hpt, Option.bind_some, if_neg c1, cl_of hv.x, if_true, e1, Option.toList, List.nil_append, List.cons_append]
      rfl
theorem c_showP {o p : Nat} (hv : CW P fx mem K ad h S) (hj : JN S) (ho : o < S.1 0 0 0) (hp : p < S.1 5 o 0) (hs : S.1 11 o p = 1) (hpm : S.2 13 o p ≤ S.2 0 0 0) (hprev : ∀ q, q < p → S.1 11 o q ≠ 1) : ∃ h', am_E P 68 0 [some (.ref (ad 0 0 0)), some (.ref (ad 9 o 0)), some (.ref (ad 20 o p)), none, none, none, none, none] [] h = some (some (.int (sp_ans (sp_showP S o p)).1), h') ∧ CW P fx mem K ad h' (sp_showP S o p).2 := by
  rw [showP_shp]
  obtain ⟨h', e1, v1⟩ := c_showR (S.1 10 o p) 0 0 S h none none none hv hj ho hp hs hpm hprev (Nat.zero_add _) (Nat.zero_le _)
  refine ⟨h', ?_, v1⟩
  refine Eq.trans ?_ e1
  simp only [r68]
  rfl
end CSh
