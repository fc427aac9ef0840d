/-! The abstract heap against the machine's: H0 is the heap at the law's start; all that is new since is known cell by cell. -/
def sn_cell (D : va_G) (cyI cyO : ClassId) (H0 : Heap) (b L : Nat) (xs : Nat → Int32) (P : Nat × Nat) (H : Heap) (a : Nat) : am_C → Prop
  | .inl (n, f) => H0.size ≤ a ∧ H[a]? = some (vp_cell cyI (n, .inl f))
  | .inr (.inl (n, f)) => H0.size ≤ a ∧ H[a]? = some (vp_cell cyO (n, .inr (.inr (.inr (.inr f)))))
  | .inr (.inr (.inl (ci, fs))) => H0.size ≤ a ∧ va_at D p_cl (a, .inr (ci, fs)) H
  | .inr (.inr (.inr (.inl (n, f)))) => a = b ∧ n = L ∧ f = xs
  | .inr (.inr (.inr (.inr true))) => a = P.1
  | .inr (.inr (.inr (.inr false))) => True
def sn_obj (h : am_H) (y : Nat) : Prop := ∃ ci fs, h.2.2 y = ac_O ci fs ∧ 0 < ci
def sn_H (D : va_G) (cyI cyO : ClassId) (H0 : Heap) (b L : Nat) (xs : Nat → Int32) (P : Nat × Nat) (h : am_H) (H : Heap) : Prop :=
  H.size = h.1 ∧ H0.size ≤ h.1 ∧ (∀ q : Nat, q < H0.size → H[q]? = H0[q]?) ∧ (∀ a, sn_cell D cyI cyO H0 b L xs P H a (h.2.2 a)) ∧ (∀ a n f, h.2.2 a = ac_R n f → ∀ j y, f j = some y → sn_obj h y)
def sn_isN : Jvm.Cond → Bool
  | .fieldLinkNest .. => true
  | .methodLinkNest .. => true
  | .castable .. => true
  | _ => false
def sn_gw : List Jvm.Cond := lw_tbl.filter goodWord
/-- what the tables and the old heap say, at a state of the run -/
def sn_K (D : va_G) (cyI cyO : ClassId) (H0 : Heap) (b L : Nat) (xs : Nat → Int32) (P : Nat × Nat) (s : State) : Prop :=
  va_K D p_cl [(cyI, .int), (cyO, .object "java/lang/Object")] s ∧ va_X b L xs s H0 ∧ b < H0.size ∧
  va_Z "java/util/ArrayList" "DEFAULTCAPACITY_EMPTY_ELEMENTDATA" "[Ljava/lang/Object;" (.ref P.1) (fun q => H0.size ≤ q) s H0 ∧
  (∃ cell : Cell, H0[P.1]? = some cell ∧ s.isArrayOf cell (.object "java/lang/Object") ∧ cell.slots.size.toInt32 = 0) ∧ P.1 < H0.size ∧
  va_Mi "[Ljava/lang/Object;" P.2 s ∧ va_AO "java/lang/Object" s ∧ va_Dc s ∧ (∀ w ∈ lw_tbl, sn_isN w = true → va_Nw w s)
theorem sn_K.moved {D : va_G} {cyI cyO : ClassId} {H0 : Heap} {b L : Nat} {xs : Nat → Int32} {P : Nat × Nat} {s U : State} (hW : s.WarmedH U.vm) (h : sn_K D cyI cyO H0 b L xs P s) : sn_K D cyI cyO H0 b L xs P U := by
  obtain ⟨h1, h2, h3, h4, ⟨cell, h5, h6, h7⟩, h8, h9, h10, h11, h12⟩ := h
  refine ⟨va_K.moved hW.alike h1, va_X.moved hW.alike h2, h3, va_Z.moved hW.alike h4, ⟨cell, h5, State.isArrayOf_alike hW.alike h6, h7⟩, h8, va_Mi.moved hW.alike h9, va_AO.moved hW.alike h10, va_Dc.moved hW.alike h11, fun w hw hN => ?_⟩
  have hz := h12 w hw hN
  cases w <;> first | (exact va_Nw.warmF hW hz) | (exact va_Nw.warmM hW hz) | (exact va_Nw.warmC hW hz) | (cases hN)
section Cells
variable {D : va_G} {cyI cyO : ClassId} {H0 : Heap} {b L : Nat} {xs : Nat → Int32} {P : Nat × Nat} {h : am_H} {H H1 : Heap}
theorem sn_cell.kept {a : Nat} {c : am_C} (hc : sn_cell D cyI cyO H0 b L xs P H a c) (hq : a < H.size → H1[a]? = H[a]?) : sn_cell D cyI cyO H0 b L xs P H1 a c := by
  rcases c with ⟨n, f⟩ | ⟨n, f⟩ | ⟨ci, fs⟩ | ⟨n, f⟩ | z
  · exact ⟨hc.1, by rw [hq (Array.getElem?_eq_some_iff.mp hc.2).1]; exact hc.2⟩
  · exact ⟨hc.1, by rw [hq (Array.getElem?_eq_some_iff.mp hc.2).1]; exact hc.2⟩
  · exact ⟨hc.1, va_at.kept hc.2 (hq (va_at.lt hc.2))⟩
  · exact hc
  · cases z <;> exact hc
theorem sn_H.at {a : Nat} {c : am_C} (hH : sn_H D cyI cyO H0 b L xs P h H) (hc : h.2.2 a = c) : sn_cell D cyI cyO H0 b L xs P H a c := by
  rw [← hc]
  exact hH.2.2.2.1 a
theorem sn_put {a : Nat} {c : am_C} (hH : sn_H D cyI cyO H0 b L xs P h H) (ha : H0.size ≤ a) (z : H1.size = H.size) (oq : ∀ q : Nat, q ≠ a → H1[q]? = H[q]?) (hc : sn_cell D cyI cyO H0 b L xs P H1 a c)
    (hk : ∀ ci fs, h.2.2 a = ac_O ci fs → ∃ fs', c = ac_O ci fs') (hr : ∀ n f, c = ac_R n f → ∀ j y, f j = some y → sn_obj h y) : sn_H D cyI cyO H0 b L xs P (ah_put h a c) H1 := by
  obtain ⟨h1, h2, h3, h4, h5⟩ := hH
  have ho : ∀ y, sn_obj h y → sn_obj (ah_put h a c) y := by
    rintro y ⟨ci, fs, e1, e2⟩
    by_cases hy : y = a
    · subst hy
      obtain ⟨fs', e⟩ := hk ci fs e1
      exact ⟨ci, fs', by simp [ah_put, va_up, e], e2⟩
    · exact ⟨ci, fs, by simp [ah_put, va_up, hy, e1], e2⟩
  refine ⟨z.trans h1, h2, fun q hq => (oq q (by omega)).trans (h3 q hq), fun q => ?_, fun q n f e j y hy => ?_⟩
  · by_cases hq : q = a
    · subst hq
      simpa [ah_put, va_up] using hc
    · have : (ah_put h a c).2.2 q = h.2.2 q := by simp [ah_put, va_up, hq]
      rw [this]
      exact (h4 q).kept (fun _ => oq q hq)
  · apply ho
    by_cases hq : q = a
    · subst hq
      exact hr n f (by simpa [ah_put, va_up] using e) j y hy
    · exact h5 q n f (by simpa [ah_put, va_up, hq] using e) j y hy
theorem sn_new {c : am_C} {k : Nat} (hH : sn_H D cyI cyO H0 b L xs P h H) (z : H1.size = h.1 + 1) (oq : ∀ q : Nat, q < h.1 → H1[q]? = H[q]?) (hc : sn_cell D cyI cyO H0 b L xs P H1 h.1 c)
    (hr : ∀ n f, c = ac_R n f → ∀ j, f j = none) : sn_H D cyI cyO H0 b L xs P (ah_new h k c) H1 := by
  obtain ⟨h1, h2, h3, h4, h5⟩ := hH
  have ho : ∀ y, sn_obj h y → sn_obj (ah_new h k c) y := by
    rintro y ⟨ci, fs, e1, e2⟩
    have hy : y ≠ h.1 := by
      intro hy
      have := h4 y
      rw [e1] at this
      have := va_at.lt this.2
      simp only at this
      omega
    exact ⟨ci, fs, by simp [ah_new, va_up, hy, e1], e2⟩
  refine ⟨z, Nat.le_succ_of_le h2, fun q hq => (oq q (by omega)).trans (h3 q hq), fun q => ?_, fun q n f e j y hy => ?_⟩
  · by_cases hq : q = h.1
    · subst hq
      simpa [ah_new, va_up] using hc
    · have : (ah_new h k c).2.2 q = h.2.2 q := by simp [ah_new, va_up, hq]
      rw [this]
      exact (h4 q).kept (fun hl => oq q (by omega))
  · apply ho
    by_cases hq : q = h.1
    · subst hq
      have := hr n f (by simpa [ah_new, va_up] using e) j
      rw [this] at hy
      cases hy
    · exact h5 q n f (by simpa [ah_new, va_up, hq] using e) j y hy
end Cells
/-! locals -/
def sn_L (A : Array Slot) (ls : am_L) : Prop := A.size = ls.length ∧ lv_wf A ∧ ∀ (i : Nat) (v : Value), ls[i]? = some (some v) → A[i]? = some (Slot.val v) ∧ v.category = 1
def sn_lv (ls : am_L) : List (Nat × Value) := (List.range ls.length).filterMap (fun i => match ls[i]? with
  | some (some v) => some (i, v)
  | _ => none)
theorem sn_lv_mem {ls : am_L} {i : Nat} {v : Value} : (i, v) ∈ sn_lv ls ↔ ls[i]? = some (some v) := by
  unfold sn_lv
  rw [List.mem_filterMap]
  constructor
  · rintro ⟨j, -, hj⟩
    split at hj
    · rename_i w hw
      cases hj
      exact hw
    · cases hj
  · intro hi
    refine ⟨i, List.mem_range.mpr (List.getElem?_eq_some_iff.mp hi).1, ?_⟩
    rw [hi]
theorem sn_L.has {A : Array Slot} {ls : am_L} (h : sn_L A ls) : lv_has A ls.length (sn_lv ls) := ⟨h.1, h.2.1, fun q hq => (h.2.2 q.1 q.2 (sn_lv_mem.mp hq)).1⟩
theorem sn_L.set {A A' : Array Slot} {ls : am_L} {k : Nat} {v : Value} (h : sn_L A ls) (hv : v.category = 1) (hA : lv_has A' ls.length ((k, v) :: (sn_lv ls).filter (fun q => !(q.1 == k) && !(q.1 + 1 == k && q.2.category == 2)))) : sn_L A' (ls.set k (some v)) := by
  refine ⟨by rw [List.length_set]; exact hA.1, hA.2.1, fun i w hi => ?_⟩
  by_cases hik : i = k
  · subst hik
    have hw : w = v := by
      rw [List.getElem?_set] at hi
      split at hi
      · split at hi
        · cases hi; rfl
        · cases hi
      · rename_i hne; exact absurd rfl hne
    subst hw
    exact ⟨hA.2.2 (i, w) List.mem_cons_self, hv⟩
  · have hi' : ls[i]? = some (some w) := by
      rw [List.getElem?_set] at hi
      rw [if_neg (fun e => hik e.symm)] at hi
      exact hi
    have hc := (h.2.2 i w hi').2
    refine ⟨hA.2.2 (i, w) (List.mem_cons_of_mem _ (List.mem_filter.mpr ⟨sn_lv_mem.mpr hi', ?_⟩)), hc⟩
    simp [hik, hc]
theorem sn_ld {A : Array Slot} {ls : am_L} {k : Nat} {v : Value} (h : sn_L A ls) (hk : am_ld ls k = some v) : A[k]? = some (.val v) := by
  unfold am_ld at hk
  split at hk
  · rename_i w hw
    cases hk
    exact (h.2.2 k _ hw).1
  · cases hk
