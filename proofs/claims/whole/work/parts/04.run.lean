/-! A run of the abstract machine, with fuel; its limit am_E; am_E is the fixed point of the step. -/
def am_step (P : Nat × Nat) (rec : Nat → Nat → am_L → List Value → am_H → Option am_R) (mi pc : Nat) (ls : am_L) (st : List Value) (h : am_H) : Option am_R :=
  match p_at mi pc with
  | none => none
  | some (i, _, x) => match am_act P p_ty p_df (p_rt mi) pc i x ls st h with
    | none => none
    | some (.inl r) => some r
    | some (.inr (.inl (pc', ls', st', h'))) => rec mi pc' ls' st' h'
    | some (.inr (.inr (cy, as, r))) => match rec cy 0 (am_ini as (p_ml cy)) [] h with
      | none => none
      | some (v, h') => rec mi (pc + 3) ls (v.toList ++ r) h'
def am_run (P : Nat × Nat) : Nat → Nat → Nat → am_L → List Value → am_H → Option am_R
  | 0, _, _, _, _, _ => none
  | f + 1, mi, pc, ls, st, h => am_step P (am_run P f) mi pc ls st h
theorem am_step_mono {P : Nat × Nat} {r1 r2 : Nat → Nat → am_L → List Value → am_H → Option am_R} (hr : ∀ mi pc ls st h r, r1 mi pc ls st h = some r → r2 mi pc ls st h = some r) {mi pc : Nat} {ls : am_L} {st : List Value} {h : am_H} {r : am_R} (hs : am_step P r1 mi pc ls st h = some r) : am_step P r2 mi pc ls st h = some r := by
  unfold am_step at hs ⊢
  split at hs
  · cases hs
  · rename_i i n x hp
    split at hs
    · cases hs
    · rename_i q hq
      exact hs
    · rename_i pc' ls' st' h' hq
      exact hr _ _ _ _ _ _ hs
    · rename_i cy as rr hq
      split at hs
      · cases hs
      · rename_i v h' hc
        rw [hr _ _ _ _ _ _ hc]
        exact hr _ _ _ _ _ _ hs
theorem am_run_mono1 (P : Nat × Nat) : ∀ (f mi pc : Nat) (ls : am_L) (st : List Value) (h : am_H) (r : am_R), am_run P f mi pc ls st h = some r → am_run P (f + 1) mi pc ls st h = some r := by
  intro f
  induction f with
  | zero => intro mi pc ls st h r hr; cases hr
  | succ f ih => intro mi pc ls st h r hr; exact am_step_mono ih hr
theorem am_run_mono (P : Nat × Nat) {f : Nat} (g : Nat) {mi pc : Nat} {ls : am_L} {st : List Value} {h : am_H} {r : am_R} (hr : am_run P f mi pc ls st h = some r) : am_run P (f + g) mi pc ls st h = some r := by
  induction g with
  | zero => exact hr
  | succ g ih => exact am_run_mono1 P _ _ _ _ _ _ _ ih
theorem am_run_fun (P : Nat × Nat) {f g : Nat} {mi pc : Nat} {ls : am_L} {st : List Value} {h : am_H} {r q : am_R} (hr : am_run P f mi pc ls st h = some r) (hq : am_run P g mi pc ls st h = some q) : r = q := by
  have h1 := am_run_mono P g hr
  have h2 := am_run_mono P f hq
  rw [Nat.add_comm] at h2
  exact Option.some.inj (h1.symm.trans h2)
noncomputable def am_E (P : Nat × Nat) (mi pc : Nat) (ls : am_L) (st : List Value) (h : am_H) : Option am_R :=
  @dite _ (∃ r, ∃ f, am_run P f mi pc ls st h = some r) (Classical.propDecidable _) (fun hx => some (Classical.choose hx)) (fun _ => none)
theorem am_E_of {P : Nat × Nat} {f mi pc : Nat} {ls : am_L} {st : List Value} {h : am_H} {r : am_R} (hr : am_run P f mi pc ls st h = some r) : am_E P mi pc ls st h = some r := by
  have hx : ∃ r, ∃ f, am_run P f mi pc ls st h = some r := ⟨r, f, hr⟩
  unfold am_E
  rw [dif_pos hx]
  obtain ⟨g, hg⟩ := Classical.choose_spec hx
  rw [am_run_fun P hr hg]
theorem am_E_ex {P : Nat × Nat} {mi pc : Nat} {ls : am_L} {st : List Value} {h : am_H} {r : am_R} (hr : am_E P mi pc ls st h = some r) : ∃ f, am_run P f mi pc ls st h = some r := by
  unfold am_E at hr
  split at hr
  · rename_i hx
    obtain ⟨g, hg⟩ := Classical.choose_spec hx
    refine ⟨g, ?_⟩
    rw [hg]
    exact hr
  · cases hr
theorem am_step_fin {P : Nat × Nat} {mi pc : Nat} {ls : am_L} {st : List Value} {h : am_H} {r : am_R} (hs : am_step P (am_E P) mi pc ls st h = some r) : ∃ f, am_step P (am_run P f) mi pc ls st h = some r := by
  unfold am_step at hs ⊢
  split at hs
  · cases hs
  · rename_i i n x hp
    split at hs
    · cases hs
    · rename_i q hq
      exact ⟨0, by exact hs⟩
    · rename_i pc' ls' st' h' hq
      obtain ⟨f, hf⟩ := am_E_ex hs
      exact ⟨f, by exact hf⟩
    · rename_i cy as rr hq
      split at hs
      · cases hs
      · rename_i v h' hc
        obtain ⟨f, hf⟩ := am_E_ex hc
        obtain ⟨g, hg⟩ := am_E_ex hs
        refine ⟨f + g, ?_⟩
        rw [am_run_mono P g hf]
        have := am_run_mono P f hg
        rw [Nat.add_comm] at this
        exact this
theorem am_E_eq (P : Nat × Nat) (mi pc : Nat) (ls : am_L) (st : List Value) (h : am_H) : am_E P mi pc ls st h = am_step P (am_E P) mi pc ls st h := by
  apply Option.ext
  intro r
  constructor
  · intro hr
    obtain ⟨f, hf⟩ := am_E_ex hr
    cases f with
    | zero => cases hf
    | succ f => exact am_step_mono (fun _ _ _ _ _ _ h => am_E_of h) hf
  · intro hs
    obtain ⟨f, hf⟩ := am_step_fin hs
    exact am_E_of (f := f + 1) hf
/-! the kinds of rows -/
section Rows
variable {P : Nat × Nat} {mi pc n : Nat} {i : Instr} {x : am_X} {ls ls' : am_L} {st st' : List Value} {h h' : am_H}
theorem er_go {pc' : Nat} (hc : p_at mi pc = some (i, n, x)) (ha : am_act P p_ty p_df (p_rt mi) pc i x ls st h = am_go pc' ls' st' h') : am_E P mi pc ls st h = am_E P mi pc' ls' st' h' := by
  rw [am_E_eq]
  unfold am_step
  simp only [hc, ha]
theorem er_no (hc : p_at mi pc = some (i, n, x)) (ha : am_act P p_ty p_df (p_rt mi) pc i x ls st h = none) : am_E P mi pc ls st h = none := by
  rw [am_E_eq]
  unfold am_step
  simp only [hc, ha]
theorem er_ret {r : am_R} (hc : p_at mi pc = some (i, n, x)) (ha : am_act P p_ty p_df (p_rt mi) pc i x ls st h = some (.inl r)) : am_E P mi pc ls st h = some r := by
  rw [am_E_eq]
  unfold am_step
  simp only [hc, ha]
theorem er_call {cy : Nat} {as r : List Value} (hc : p_at mi pc = some (i, n, x)) (ha : am_act P p_ty p_df (p_rt mi) pc i x ls st h = some (.inr (.inr (cy, as, r)))) : am_E P mi pc ls st h = (am_E P cy 0 (am_ini as (p_ml cy)) [] h).bind (fun q => am_E P mi (pc + 3) ls (q.1.toList ++ r) q.2) := by
  rw [am_E_eq]
  unfold am_step
  simp only [hc, ha]
  split <;> rename_i hq <;> rw [hq] <;> rfl
/-- reading a cell: the fact is put in as an equation -/
theorem er_opt {α : Type} {o : Option α} {k : α → Option am_A} {j : α → Option am_R} (hc : p_at mi pc = some (i, n, x)) (ha : am_act P p_ty p_df (p_rt mi) pc i x ls st h = (match o with | some v => k v | none => none)) (hk : ∀ v, am_act P p_ty p_df (p_rt mi) pc i x ls st h = k v → am_E P mi pc ls st h = j v) : am_E P mi pc ls st h = o.bind j := by
  cases o with
  | none => exact er_no hc ha
  | some v => exact hk v ha
theorem er_if {c : Prop} {hd : Decidable c} {a b : Option am_A} {u v : Option am_R} (ha : am_act P p_ty p_df (p_rt mi) pc i x ls st h = @ite _ c hd a b) (hu : am_act P p_ty p_df (p_rt mi) pc i x ls st h = a → am_E P mi pc ls st h = u) (hv : am_act P p_ty p_df (p_rt mi) pc i x ls st h = b → am_E P mi pc ls st h = v) : am_E P mi pc ls st h = @ite _ c hd u v := by
  by_cases hcc : c
  · rw [if_pos hcc] at ha ⊢; exact hu ha
  · rw [if_neg hcc] at ha ⊢; exact hv ha
end Rows
