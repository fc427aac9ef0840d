/-! The class: a part is made. -/
theorem ah_put2 (h : am_H) (a : Nat) (c d : am_C) : ah_put (ah_put h a c) a d = ah_put h a d := by
  unfold ah_put
  refine Prod.ext rfl (Prod.ext rfl (funext fun x => ?_))
  show va_up (va_up h.2.2 a c) a d x = va_up h.2.2 a d x
  unfold va_up
  split <;> rfl
theorem c_newPart (P : Nat × Nat) {h : am_H} {q : Nat} {x0 x1 x2 x3 x4 x5 x6 : Value} (hc : h.2.2 q = ac_O 5 [x0, x1, x2, x3, x4, x5, x6]) (n f : Int32) : am_E P 20 0 [some (.ref q), some (.int n), some (.int f)] [] h = some (none, ah_put h q (ac_O 5 [.int n, .int f, .int 0, .int (-6), .int 0, .int 0, .int 0])) := by
  simp only [r20, o7 hc, o7 (ah_same h q _), ah_put2, Option.bind_some]
section CPt
variable {P : Nat × Nat} {fx fx' : Nat → Prop} {mem mem' : Nat → am_C} {K : Nat × Nat} {ad ae : Nat → Nat → Nat → Nat} {h : am_H} {S : sp}
/-- an object that the class doesn't hold yet -/
theorem CW.tmp (hv : CW P fx mem K ad h S) (k : Nat) (c : am_C) : CW P (fun a => fx a ∨ a = h.1) (va_up mem h.1 c) (K.1 + 1, K.2 + k) ad (ah_new h k c) S := by
  obtain ⟨ae, hv⟩ := hv
  have hlt : ∀ a, fx a → a ≠ h.1 := fun a ha e => by
    have := (hv.2.2.1 a ha).1
    omega
  refine ⟨ae, hv.upd (fun _ _ _ => False) (fun a i j hl _ => ⟨hl, rfl, fun c hc => hc⟩) (Nat.le_succ _) (fun a i j h1 _ _ => an_ne (by have := (hv.1 a i j h1).1; omega)) (fun a i j h1 _ _ => ?_) (fun _ _ _ _ hn => hn.elim) hv.2.1 (fun a ha => ?_) (Or.inl hv.2.2.2.1) ?_ ?_ ?_⟩
  · rintro (e | e)
    · exact (hv.1 a i j h1).2.1 e
    · have := (hv.1 a i j h1).1
      omega
  · rcases ha with ha | rfl
    · have := hv.2.2.1 a ha
      refine ⟨by show a < h.1 + 1; omega, ?_⟩
      rw [an_ne (hlt a ha), va_up_ne _ _ (hlt a ha)]
      exact this.2
    · exact ⟨by show h.1 < h.1 + 1; omega, by rw [an_same, va_up_self]⟩
  · rw [va_up_ne _ _ (hlt _ hv.2.2.2.1)]
    exact hv.2.2.2.2.1
  · have := hv.2.2.2.2.2.1
    show h.1 + 1 ≤ K.1 + 1 + w1 S
    omega
  · have := hv.2.2.2.2.2.2
    show h.2.1 + k ≤ K.2 + k + w2 S
    omega
theorem CW.fput (hv : CW P fx mem K ad h S) {a : Nat} (ha : fx a) (hP : a ≠ P.1) (c : am_C) : CW P fx (va_up mem a c) K ad (ah_put h a c) S := by
  obtain ⟨ae, hv⟩ := hv
  refine ⟨ae, hv.upd (fun _ _ _ => False) (fun a i j hl _ => ⟨hl, rfl, fun c hc => hc⟩) (Nat.le_refl _) (fun b i j h1 _ _ => ah_ne (fun e => (hv.1 b i j h1).2.1 (e ▸ ha))) (fun b i j h1 _ _ => (hv.1 b i j h1).2.1) (fun _ _ _ _ hn => hn.elim) hv.2.1 (fun b hb => ⟨(hv.2.2.1 b hb).1, ?_⟩) hv.2.2.2.1 ?_ hv.2.2.2.2.2.1 hv.2.2.2.2.2.2⟩
  · by_cases e : b = a
    · subst e; rw [ah_same, va_up_self]
    · rw [ah_ne e, va_up_ne _ _ e]; exact (hv.2.2.1 b hb).2
  · rw [va_up_ne _ _ (Ne.symm hP)]
    exact hv.2.2.2.2.1
theorem CW.less (hv : CW P fx' mem' K ad h S) (hs : ∀ a, fx a → fx' a ∧ mem a = mem' a) (hP : fx P.1) : CW P fx mem K ad h S := by
  obtain ⟨ae, hv⟩ := hv
  refine ⟨ae, hv.upd (fun _ _ _ => False) (fun a i j hl _ => ⟨hl, rfl, fun c hc => hc⟩) (Nat.le_refl _) (fun b i j h1 _ _ => rfl) (fun b i j h1 _ _ e => (hv.1 b i j h1).2.1 (hs _ e).1) (fun _ _ _ _ hn => hn.elim) hv.2.1 (fun b hb => ⟨(hv.2.2.1 b (hs b hb).1).1, ?_⟩) hP ?_ hv.2.2.2.2.2.1 hv.2.2.2.2.2.2⟩
  · rw [(hv.2.2.1 b (hs b hb).1).2, (hs b hb).2]
  · rw [(hs _ hP).2]; exact hv.2.2.2.2.1
theorem CW.fxd (hv : CW P fx mem K ad h S) {a : Nat} (ha : fx a) : a < h.1 ∧ h.2.2 a = mem a := by
  obtain ⟨ae, hv⟩ := hv
  exact hv.2.2.1 a ha
theorem CW.kup (hv : CW P fx mem K ad h S) {K' : Nat × Nat} (h1 : K.1 ≤ K'.1) (h2 : K.2 ≤ K'.2) : CW P fx mem K' ad h S := by
  obtain ⟨ae, a1, a2, a3, a4, a5, a6, a7⟩ := hv
  exact ⟨ae, a1, a2, a3, a4, a5, by omega, by omega⟩
/-- a part's number is taken: no rows yet -/
def sp_pn (T : sp) (o p n0 : Nat) : sp := sN (sN (sN (sN (sN (sV T 13 o p (-6)) 9 o p n0) 11 o p 0) 15 o p 0) 10 o p 0) 5 o 0 (p + 1)
theorem pn_5 (T : sp) (o p n0 b : Nat) : (sp_pn T o p n0).1 5 b 0 = if b = o then p + 1 else T.1 5 b 0 := by
  simp [sp_pn, sN_1, sV_1]
theorem SO.pn (e : Nat) {o p n0 q : Nat} (hp : S.1 5 o 0 = p) : SO P (jn ad ae) (jn (u3 ad 20 o p q) (u3 ae 13 o 0 e)) S (sp_pn S o p n0) (fun k i j => (k = 12 ∧ i = o) ∨ (k = 13 ∧ i = o) ∨ (k = 20 ∧ i = o ∧ j = p)) := by
  intro k i j hl hN
  rcases k23 hl with rfl | rfl | rfl | rfl | rfl | rfl | rfl | rfl | rfl | rfl | rfl | rfl | rfl | rfl | rfl | rfl | rfl | rfl | rfl | rfl | rfl | rfl | rfl
  all_goals first
    | exact ⟨hl, rfl, fun c hc => hc⟩
    | exact ⟨hl, rfl, fun c hc => by refine ok22 ?_ ?_ ?_ ?_ hc <;> (intros; rfl)⟩
    | skip
  · have hi : ¬ i = o := fun e => hN (Or.inl ⟨rfl, e⟩)
    refine ⟨hl, rfl, fun c hc => ?_⟩
    obtain ⟨mc, hc⟩ := hc
    refine ⟨mc, ?_⟩
    rw [hc, pn_5, if_neg hi]
    show _ = ac_O 0 [.int mc, .ref (if S.1 5 i 0 = 0 then P.1 else u3 ae 13 o 0 e 13 i 0), .int (nI (S.1 5 i 0))]
    unfold u3
    rw [if_neg (show ¬ (13 = 13 ∧ i = o ∧ 0 = 0) from fun x => hi x.2.1)]
    rfl
  · have hi : ¬ i = o := fun e => hN (Or.inr (Or.inl ⟨rfl, e⟩))
    have h5 : (sp_pn S o p n0).1 5 i 0 = S.1 5 i 0 := by rw [pn_5, if_neg hi]
    refine ⟨⟨hl.1, by have := hl.2; rw [h5] at this; exact this⟩, ?_, fun c hc => ?_⟩
    · show u3 ae 13 o 0 e 13 i j = ae 13 i j
      unfold u3
      rw [if_neg (fun x => hi x.2.1)]
    · obtain ⟨cap, g, b1, b2, b3, b4⟩ := hc
      refine ⟨cap, g, b1, by rw [h5]; exact b2, b3, fun p' hp' => ?_⟩
      rw [h5] at hp'
      rw [b4 p' hp']
      show some (ad 20 i p') = some (u3 ad 20 o p q 20 i p')
      unfold u3
      rw [if_neg (fun x => hi x.2.1)]
  · have hij : ¬ (i = o ∧ j = p) := fun e => hN (Or.inr (Or.inr ⟨rfl, e⟩))
    have hl2 : j < S.1 5 i 0 := by
      have := hl.2
      rw [pn_5] at this
      split at this
      · rename_i e
        have : ¬ j = p := fun e' => hij ⟨e, e'⟩
        rw [e]
        omega
      · exact this
    refine ⟨⟨hl.1, hl2⟩, ?_, fun c hc => ?_⟩
    · show u3 ad 20 o p q 20 i j = ad 20 i j
      unfold u3
      rw [if_neg (fun x => hij x.2)]
    · obtain ⟨x, y, hc⟩ := hc
      refine ⟨x, y, ?_⟩
      simp only [sp_pn, sN_1, sN_2, sV_1, sV_2, hij, and_false, if_false, false_and]
      simpa using hc
theorem jn_u3b (ad ae : Nat → Nat → Nat → Nat) {k : Nat} (hk : ¬ (k = 2 ∨ k = 4 ∨ k = 6 ∨ k = 13 ∨ k = 15)) (i j e : Nat) : u3 (jn ad ae) k i j e = jn (u3 ad k i j e) ae := by
  funext a b c
  unfold u3 jn
  by_cases ha : a = k
  · subst ha
    simp only [if_neg hk]
  · simp only [ha, false_and, if_false]
/-- a part goes into its output's list -/
theorem c_padd {q o p n0 : Nat} {c0 : am_C} (hv : CV P (fun a => fx a ∨ a = q) (va_up mem q c0) K (jn ad ae) h S) (ho : o < S.1 0 0 0) (hp : S.1 5 o 0 = p) (hp2 : p < 1000) (hq : ¬ fx q) (hc0 : c0 = ac_O 5 [.int (nI p), .int (nI n0), .int 0, .int (-6), .int 0, .int 0, .int 0]) (hP : fx P.1) : ∃ h', am_E P 122 0 [some (.ref (ad 12 o 0)), some (.ref q)] [] h = some (some (.int 1), h') ∧ CW P fx mem (K.1 + 1, K.2 + 2010) (u3 ad 20 o p q) h' (sp_pn S o p n0) := by
  have hqP : q ≠ P.1 := fun e => hq (e ▸ hP)
  have hlt : ∀ a, fx a → a ≠ q := fun a ha e => hq (e ▸ ha)
  obtain ⟨mc, hl⟩ := hv.pl ho
  have hqc := hv.2.2.1 q (Or.inr rfl)
  rw [va_up_self, hc0] at hqc
  have hrole := hv.1 12 o 0 ⟨ho, rfl⟩
  have hPx := hv.2.2.1 P.1 (Or.inl hP)
  rw [va_up_ne _ _ (Ne.symm hqP)] at hPx
  have hE : mem P.1 = ac_E := by
    have := hv.2.2.2.2.1
    rwa [va_up_ne _ _ (Ne.symm hqP)] at this
  have hlP : ad 12 o 0 ≠ P.1 := fun e => hrole.2.1 (Or.inl (by show fx (ad 12 o 0); rw [e]; exact hP))
  have hlq : q ≠ ad 12 o 0 := fun e => hrole.2.1 (Or.inr e.symm)
  obtain ⟨e0, cap, g, hl0, hlt0, hle0, hcase, hg0⟩ : ∃ (e0 cap : Nat) (g : Nat → Option Nat), h.2.2 (ad 12 o 0) = ac_O 0 [.int mc, .ref e0, .int (nI p)] ∧ e0 < h.1 ∧ ad 12 o 0 ≠ e0 ∧ ((p = 0 ∧ e0 = P.1 ∧ h.2.2 e0 = ac_E) ∨ (0 < p ∧ p ≤ cap ∧ cap < 100000 ∧ h.2.2 e0 = ac_R cap g)) ∧ (0 < p → e0 = ae 13 o 0 ∧ ∀ i, i < p → g i = some (ad 20 o i)) := by
    rw [hp] at hl
    by_cases h0 : p = 0
    · rw [if_pos h0] at hl
      exact ⟨P.1, 0, fun _ => none, hl, hPx.1, hlP, Or.inl ⟨h0, rfl, hPx.2.trans hE⟩, fun h1 => absurd h0 (by omega)⟩
    · rw [if_neg h0] at hl
      obtain ⟨b1, b2, cap, g, b3, b4, b5, b6⟩ := hv.1 13 o 0 ⟨⟨ho, rfl⟩, by omega⟩
      rw [hp] at b4 b6
      exact ⟨ae 13 o 0, cap, g, hl, b1, fun e => absurd (hv.2.1 12 o 0 13 o 0 ⟨ho, rfl⟩ ⟨⟨ho, rfl⟩, by omega⟩ e).1 (by decide), Or.inr ⟨by omega, b4, b5, b3⟩, fun _ => ⟨rfl, b6⟩⟩
  obtain ⟨h', e', cap', g', mc', e1, e2, e3, e4, e5, e6, e7, e8, e9⟩ := c_add P hl0 hrole.1 hlt0 hle0 hqc.2 (by decide) hqc.1 hlq hp2 hcase
  -- the new array is one of the list's own, or new
  have hne : ∀ k i j, lv S k i j → ¬ (k = 13 ∧ i = o ∧ j = 0) → jn ad ae k i j ≠ e' := by
    intro k i j hl hn e
    rcases e8 with ⟨b, b0, _⟩ | ⟨b, _⟩
    · rw [b, (hg0 b0).1] at e
      exact hn (hv.2.1 k i j 13 o 0 hl ⟨⟨ho, rfl⟩, by omega⟩ e)
    · have := (hv.1 k i j hl).1
      omega
  have hqe : q ≠ e' := by
    rcases e8 with ⟨b, b0, _⟩ | ⟨b, _⟩
    · intro e
      have := (hv.1 13 o 0 ⟨⟨ho, rfl⟩, by omega⟩).2.1
      exact this (Or.inr (by show ae 13 o 0 = q; rw [← (hg0 b0).1, ← b, ← e]))
    · have := hqc.1
      omega
  have hfe : ¬ fx e' := by
    rcases e8 with ⟨b, b0, _⟩ | ⟨b, _⟩
    · have := (hv.1 13 o 0 ⟨⟨ho, rfl⟩, by omega⟩).2.1
      rw [b, (hg0 b0).1]
      exact fun x => this (Or.inl x)
    · intro x
      have := (hv.2.2.1 _ (Or.inl x)).1
      omega
  have hup : h.1 ≤ h'.1 ∧ h'.1 ≤ h.1 + 1 ∧ h'.2.1 ≤ h.2.1 + 2010 := by
    rcases e8 with ⟨_, _, b1, b2⟩ | ⟨_, b1, b2⟩ <;> omega
  refine ⟨h', e1, u3 ae 13 o 0 e', hv.upd (fun k i j => (k = 12 ∧ i = o) ∨ (k = 13 ∧ i = o) ∨ (k = 20 ∧ i = o ∧ j = p)) (SO.pn e' hp) hup.1 (fun k i j h1 h2 hN => e9 _ ?_ ?_) (fun k i j h1 _ _ x => (hv.1 k i j h1).2.1 (Or.inl x)) (fun k i j h1 hN => ?_) ?_ (fun a ha => ?_) hP hE ?_ ?_⟩
  · intro e
    obtain ⟨x1, x2, x3⟩ := hv.2.1 k i j 12 o 0 h1 ⟨ho, rfl⟩ e
    exact hN (Or.inl ⟨x1, x2⟩)
  · exact hne k i j h1 (fun x => hN (Or.inr (Or.inl ⟨x.1, x.2.1⟩)))
  · have ho' : (sp_pn S o p n0).1 5 o 0 = p + 1 := by rw [pn_5, if_pos rfl]
    rcases hN with ⟨rfl, rfl⟩ | ⟨rfl, rfl⟩ | ⟨rfl, rfl, rfl⟩
    · obtain rfl : j = 0 := h1.2
      refine ⟨by have := hrole.1; show ad 12 i 0 < h'.1; have : ad 12 i 0 < h.1 := hrole.1; omega, fun x => hrole.2.1 (Or.inl x), mc', ?_⟩
      show h'.2.2 (ad 12 i 0) = _
      rw [e2, ho', if_neg (by omega)]
      show _ = ac_O 0 [.int mc', .ref (u3 ae 13 i 0 e' 13 i 0), .int (nI (p + 1))]
      unfold u3
      rw [if_pos ⟨rfl, rfl, rfl⟩]
    · obtain rfl : j = 0 := h1.1.2
      have ea : jn (u3 ad 20 i p q) (u3 ae 13 i 0 e') 13 i 0 = e' := by
        show u3 ae 13 i 0 e' 13 i 0 = e'
        unfold u3
        rw [if_pos ⟨rfl, rfl, rfl⟩]
      rw [ea]
      refine ⟨?_, hfe, cap', g', e3, by rw [ho']; exact e4, e5, fun p' hp' => ?_⟩
      · rcases e8 with ⟨b, _, b1, _⟩ | ⟨b, b1, _⟩ <;> omega
      · rw [ho'] at hp'
        show _ = some (u3 ad 20 i p q 20 i p')
        unfold u3
        by_cases hpp : p' = p
        · rw [if_pos ⟨rfl, rfl, hpp⟩, hpp]; exact e7
        · rw [if_neg (fun x => hpp x.2.2), e6 p' (by omega)]
          exact (hg0 (by omega)).2 p' (by omega)
    · have ea : jn (u3 ad 20 i j q) (u3 ae 13 i 0 e') 20 i j = q := by
        show u3 ad 20 i j q 20 i j = q
        unfold u3
        rw [if_pos ⟨rfl, rfl, rfl⟩]
      rw [ea]
      refine ⟨by have := hqc.1; omega, hq, 0, 0, ?_⟩
      rw [e9 q hlq hqe, hqc.2]
      simp [sp_pn, sN_1, sN_2, sV_1, sV_2]
      rfl
  · have s1 := AJ.mv (L := lv S) (L' := fun k i j => lv S k i j ∨ (k = 13 ∧ i = o ∧ j = 0)) hv.2.1 13 o 0 e' (fun k i j hh => hh) hne
    rw [jn_u3 ad ae (by decide)] at s1
    have s2 := AJ.mv (L' := lv (sp_pn S o p n0)) s1 20 o p q (fun k i j hh => ?_) (fun k i j hh hn => ?_)
    · rw [jn_u3b ad _ (by decide)] at s2
      exact s2
    · by_cases hN : (k = 12 ∧ i = o) ∨ (k = 13 ∧ i = o) ∨ (k = 20 ∧ i = o ∧ j = p)
      · rcases hN with ⟨rfl, rfl⟩ | ⟨rfl, rfl⟩ | x
        · exact Or.inl (Or.inl hh)
        · exact Or.inl (Or.inr ⟨rfl, rfl, hh.1.2⟩)
        · exact Or.inr x
      · exact Or.inl (Or.inl (SO.pn (P := P) (ad := ad) (ae := ae) e' (n0 := n0) (q := q) hp k i j hh hN).1)
    · by_cases hz : k = 13 ∧ i = o ∧ j = 0
      · obtain ⟨rfl, rfl, rfl⟩ := hz
        show u3 ae 13 i 0 e' 13 i 0 ≠ q
        unfold u3
        rw [if_pos ⟨rfl, rfl, rfl⟩]
        exact Ne.symm hqe
      · have hl := hh.resolve_right hz
        have : jn ad (u3 ae 13 o 0 e') k i j = jn ad ae k i j := by
          unfold jn u3
          rw [if_neg hz]
        rw [this]
        exact fun e => (hv.1 k i j hl).2.1 (Or.inr e)
  · have hx := hv.2.2.1 a (Or.inl ha)
    rw [va_up_ne _ _ (hlt a ha)] at hx
    refine ⟨by omega, ?_⟩
    rw [e9 a (fun e => hrole.2.1 (Or.inl (show fx (ad 12 o 0) from e ▸ ha))) (fun e => hfe (e ▸ ha))]
    exact hx.2
  · have := hv.2.2.2.2.2.1
    show h'.1 ≤ K.1 + 1 + w1 S
    omega
  · have := hv.2.2.2.2.2.2
    show h'.2.1 ≤ K.2 + 2010 + w2 S
    omega
end CPt
