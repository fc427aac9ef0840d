/-! What an instruction can do: the heap never shrinks; an answer; a call. -/
section Act
variable {P : Nat × Nat} {rt : Option FieldType} {pc : Nat} {i : Instr} {x : am_X} {ls : am_L} {st : List Value} {h : am_H}
set_option maxHeartbeats 4000000 in
theorem sn_act_le {pc' : Nat} {ls' : am_L} {st' : List Value} {h' : am_H} (ha : am_act P p_ty p_df rt pc i x ls st h = some (.inr (.inl (pc', ls', st', h')))) : h.1 ≤ h'.1 ∧ h.2.1 ≤ h'.2.1 := by
  unfold am_act at ha
  split at ha
  all_goals first
    | (first | (cases ha <;> (first | exact ⟨Nat.le_refl _, Nat.le_refl _⟩ | exact ⟨Nat.le_succ _, Nat.le_add_right _ _⟩ | exact ⟨Nat.le_of_eq (sn_pf_n (by assumption)).1.symm, Nat.le_of_eq (sn_pf_n (by assumption)).2.symm⟩ | exact ⟨Nat.le_of_eq (sn_iast_n (by assumption)).1.symm, Nat.le_of_eq (sn_iast_n (by assumption)).2.symm⟩ | exact ⟨Nat.le_of_eq (sn_aast_n (by assumption)).1.symm, Nat.le_of_eq (sn_aast_n (by assumption)).2.symm⟩ | exact ⟨Nat.le_of_eq (sn_copy_n (by assumption)).1.symm, Nat.le_of_eq (sn_copy_n (by assumption)).2.symm⟩)) | (split at ha <;> (first | (cases ha <;> (first | exact ⟨Nat.le_refl _, Nat.le_refl _⟩ | exact ⟨Nat.le_succ _, Nat.le_add_right _ _⟩ | exact ⟨Nat.le_of_eq (sn_pf_n (by assumption)).1.symm, Nat.le_of_eq (sn_pf_n (by assumption)).2.symm⟩ | exact ⟨Nat.le_of_eq (sn_iast_n (by assumption)).1.symm, Nat.le_of_eq (sn_iast_n (by assumption)).2.symm⟩ | exact ⟨Nat.le_of_eq (sn_aast_n (by assumption)).1.symm, Nat.le_of_eq (sn_aast_n (by assumption)).2.symm⟩ | exact ⟨Nat.le_of_eq (sn_copy_n (by assumption)).1.symm, Nat.le_of_eq (sn_copy_n (by assumption)).2.symm⟩)) | (split at ha <;> (first | (cases ha <;> (first | exact ⟨Nat.le_refl _, Nat.le_refl _⟩ | exact ⟨Nat.le_succ _, Nat.le_add_right _ _⟩ | exact ⟨Nat.le_of_eq (sn_pf_n (by assumption)).1.symm, Nat.le_of_eq (sn_pf_n (by assumption)).2.symm⟩ | exact ⟨Nat.le_of_eq (sn_iast_n (by assumption)).1.symm, Nat.le_of_eq (sn_iast_n (by assumption)).2.symm⟩ | exact ⟨Nat.le_of_eq (sn_aast_n (by assumption)).1.symm, Nat.le_of_eq (sn_aast_n (by assumption)).2.symm⟩ | exact ⟨Nat.le_of_eq (sn_copy_n (by assumption)).1.symm, Nat.le_of_eq (sn_copy_n (by assumption)).2.symm⟩)) | (split at ha <;> (first | (cases ha <;> (first | exact ⟨Nat.le_refl _, Nat.le_refl _⟩ | exact ⟨Nat.le_succ _, Nat.le_add_right _ _⟩ | exact ⟨Nat.le_of_eq (sn_pf_n (by assumption)).1.symm, Nat.le_of_eq (sn_pf_n (by assumption)).2.symm⟩ | exact ⟨Nat.le_of_eq (sn_iast_n (by assumption)).1.symm, Nat.le_of_eq (sn_iast_n (by assumption)).2.symm⟩ | exact ⟨Nat.le_of_eq (sn_aast_n (by assumption)).1.symm, Nat.le_of_eq (sn_aast_n (by assumption)).2.symm⟩ | exact ⟨Nat.le_of_eq (sn_copy_n (by assumption)).1.symm, Nat.le_of_eq (sn_copy_n (by assumption)).2.symm⟩)) | (split at ha <;> (first | (cases ha <;> (first | exact ⟨Nat.le_refl _, Nat.le_refl _⟩ | exact ⟨Nat.le_succ _, Nat.le_add_right _ _⟩ | exact ⟨Nat.le_of_eq (sn_pf_n (by assumption)).1.symm, Nat.le_of_eq (sn_pf_n (by assumption)).2.symm⟩ | exact ⟨Nat.le_of_eq (sn_iast_n (by assumption)).1.symm, Nat.le_of_eq (sn_iast_n (by assumption)).2.symm⟩ | exact ⟨Nat.le_of_eq (sn_aast_n (by assumption)).1.symm, Nat.le_of_eq (sn_aast_n (by assumption)).2.symm⟩ | exact ⟨Nat.le_of_eq (sn_copy_n (by assumption)).1.symm, Nat.le_of_eq (sn_copy_n (by assumption)).2.symm⟩)) | (split at ha <;> (cases ha <;> (first | exact ⟨Nat.le_refl _, Nat.le_refl _⟩ | exact ⟨Nat.le_succ _, Nat.le_add_right _ _⟩ | exact ⟨Nat.le_of_eq (sn_pf_n (by assumption)).1.symm, Nat.le_of_eq (sn_pf_n (by assumption)).2.symm⟩ | exact ⟨Nat.le_of_eq (sn_iast_n (by assumption)).1.symm, Nat.le_of_eq (sn_iast_n (by assumption)).2.symm⟩ | exact ⟨Nat.le_of_eq (sn_aast_n (by assumption)).1.symm, Nat.le_of_eq (sn_aast_n (by assumption)).2.symm⟩ | exact ⟨Nat.le_of_eq (sn_copy_n (by assumption)).1.symm, Nat.le_of_eq (sn_copy_n (by assumption)).2.symm⟩))))))))))))
    | (unfold am_br at ha; split at ha <;> split at ha <;> (cases ha <;> (first | exact ⟨Nat.le_refl _, Nat.le_refl _⟩ | exact ⟨Nat.le_succ _, Nat.le_add_right _ _⟩ | exact ⟨Nat.le_of_eq (sn_pf_n (by assumption)).1.symm, Nat.le_of_eq (sn_pf_n (by assumption)).2.symm⟩ | exact ⟨Nat.le_of_eq (sn_iast_n (by assumption)).1.symm, Nat.le_of_eq (sn_iast_n (by assumption)).2.symm⟩ | exact ⟨Nat.le_of_eq (sn_aast_n (by assumption)).1.symm, Nat.le_of_eq (sn_aast_n (by assumption)).2.symm⟩ | exact ⟨Nat.le_of_eq (sn_copy_n (by assumption)).1.symm, Nat.le_of_eq (sn_copy_n (by assumption)).2.symm⟩)))
    | (split at ha <;> (first | (cases ha <;> (first | exact ⟨Nat.le_refl _, Nat.le_refl _⟩ | exact ⟨Nat.le_succ _, Nat.le_add_right _ _⟩ | exact ⟨Nat.le_of_eq (sn_pf_n (by assumption)).1.symm, Nat.le_of_eq (sn_pf_n (by assumption)).2.symm⟩ | exact ⟨Nat.le_of_eq (sn_iast_n (by assumption)).1.symm, Nat.le_of_eq (sn_iast_n (by assumption)).2.symm⟩ | exact ⟨Nat.le_of_eq (sn_aast_n (by assumption)).1.symm, Nat.le_of_eq (sn_aast_n (by assumption)).2.symm⟩ | exact ⟨Nat.le_of_eq (sn_copy_n (by assumption)).1.symm, Nat.le_of_eq (sn_copy_n (by assumption)).2.symm⟩)) | (unfold am_br at ha; split at ha <;> split at ha <;> (cases ha <;> (first | exact ⟨Nat.le_refl _, Nat.le_refl _⟩ | exact ⟨Nat.le_succ _, Nat.le_add_right _ _⟩ | exact ⟨Nat.le_of_eq (sn_pf_n (by assumption)).1.symm, Nat.le_of_eq (sn_pf_n (by assumption)).2.symm⟩ | exact ⟨Nat.le_of_eq (sn_iast_n (by assumption)).1.symm, Nat.le_of_eq (sn_iast_n (by assumption)).2.symm⟩ | exact ⟨Nat.le_of_eq (sn_aast_n (by assumption)).1.symm, Nat.le_of_eq (sn_aast_n (by assumption)).2.symm⟩ | exact ⟨Nat.le_of_eq (sn_copy_n (by assumption)).1.symm, Nat.le_of_eq (sn_copy_n (by assumption)).2.symm⟩)))))
    | (split at ha <;> (first | (cases ha <;> (first | exact ⟨Nat.le_refl _, Nat.le_refl _⟩ | exact ⟨Nat.le_succ _, Nat.le_add_right _ _⟩ | exact ⟨Nat.le_of_eq (sn_pf_n (by assumption)).1.symm, Nat.le_of_eq (sn_pf_n (by assumption)).2.symm⟩ | exact ⟨Nat.le_of_eq (sn_iast_n (by assumption)).1.symm, Nat.le_of_eq (sn_iast_n (by assumption)).2.symm⟩ | exact ⟨Nat.le_of_eq (sn_aast_n (by assumption)).1.symm, Nat.le_of_eq (sn_aast_n (by assumption)).2.symm⟩ | exact ⟨Nat.le_of_eq (sn_copy_n (by assumption)).1.symm, Nat.le_of_eq (sn_copy_n (by assumption)).2.symm⟩)) | (split at ha <;> (first | (cases ha <;> (first | exact ⟨Nat.le_refl _, Nat.le_refl _⟩ | exact ⟨Nat.le_succ _, Nat.le_add_right _ _⟩ | exact ⟨Nat.le_of_eq (sn_pf_n (by assumption)).1.symm, Nat.le_of_eq (sn_pf_n (by assumption)).2.symm⟩ | exact ⟨Nat.le_of_eq (sn_iast_n (by assumption)).1.symm, Nat.le_of_eq (sn_iast_n (by assumption)).2.symm⟩ | exact ⟨Nat.le_of_eq (sn_aast_n (by assumption)).1.symm, Nat.le_of_eq (sn_aast_n (by assumption)).2.symm⟩ | exact ⟨Nat.le_of_eq (sn_copy_n (by assumption)).1.symm, Nat.le_of_eq (sn_copy_n (by assumption)).2.symm⟩)) | (unfold am_abr at ha; split at ha <;> split at ha <;> (cases ha <;> (first | exact ⟨Nat.le_refl _, Nat.le_refl _⟩ | exact ⟨Nat.le_succ _, Nat.le_add_right _ _⟩ | exact ⟨Nat.le_of_eq (sn_pf_n (by assumption)).1.symm, Nat.le_of_eq (sn_pf_n (by assumption)).2.symm⟩ | exact ⟨Nat.le_of_eq (sn_iast_n (by assumption)).1.symm, Nat.le_of_eq (sn_iast_n (by assumption)).2.symm⟩ | exact ⟨Nat.le_of_eq (sn_aast_n (by assumption)).1.symm, Nat.le_of_eq (sn_aast_n (by assumption)).2.symm⟩ | exact ⟨Nat.le_of_eq (sn_copy_n (by assumption)).1.symm, Nat.le_of_eq (sn_copy_n (by assumption)).2.symm⟩)))))))
set_option maxHeartbeats 4000000 in
theorem sn_act_ret {r : Option Value} {h' : am_H} {M : am_M} {n : Nat} (hrt : rt = M.2.2.2.1) (hdec : decode M.2.1 pc = .ok (i, n)) (hlen : (sn_isSw i || decide (n = sn_len i)) = true) (hck : sn_ck M pc i x = true) (ha : am_act P p_ty p_df rt pc i x ls st h = some (.inl (r, h'))) : h' = h ∧ st = r.toList ∧ sn_ret M pc r := by
  unfold am_act at ha
  split at ha
  case h_48 =>
    obtain rfl : n = 1 := of_decide_eq_true hlen
    split at ha
    · split at ha
      · rename_i hr
        cases ha
        exact ⟨rfl, rfl, Or.inr (Or.inl ⟨_, rfl, hdec, by rw [← hrt]; exact hr⟩)⟩
      · cases ha
    · cases ha
  case h_49 =>
    obtain rfl : n = 1 := of_decide_eq_true hlen
    split at ha
    · cases ha
      exact ⟨rfl, rfl, Or.inr (Or.inr (Or.inl ⟨_, rfl, hdec, of_decide_eq_true hck⟩))⟩
    · cases ha
  case h_50 =>
    obtain rfl : n = 1 := of_decide_eq_true hlen
    have hrr : ∃ rt9, M.2.2.2.1 = some rt9 ∧ ((∃ n, rt9 = .object n) ∨ ∃ t, rt9 = .array t) := by
      simp only [sn_ck] at hck
      split at hck
      · rename_i e1; exact ⟨_, e1, Or.inl ⟨_, rfl⟩⟩
      · rename_i e1; exact ⟨_, e1, Or.inr ⟨_, rfl⟩⟩
      · cases hck
    obtain ⟨rt9, e1, e2⟩ := hrr
    split at ha
    · cases ha
      exact ⟨rfl, rfl, Or.inr (Or.inr (Or.inr ⟨_, rt9, rfl, hdec, e1, e2, Or.inr ⟨_, rfl⟩⟩))⟩
    · cases ha
      exact ⟨rfl, rfl, Or.inr (Or.inr (Or.inr ⟨_, rt9, rfl, hdec, e1, e2, Or.inl rfl⟩))⟩
    · cases ha
  case h_51 =>
    obtain rfl : n = 1 := of_decide_eq_true hlen
    split at ha
    · cases ha
      exact ⟨rfl, rfl, Or.inl ⟨rfl, hdec, of_decide_eq_true hck⟩⟩
    · cases ha
  all_goals first
    | (first | (cases ha <;> skip) | (split at ha <;> (first | (cases ha <;> skip) | (split at ha <;> (first | (cases ha <;> skip) | (split at ha <;> (first | (cases ha <;> skip) | (split at ha <;> (first | (cases ha <;> skip) | (split at ha <;> (cases ha <;> skip)))))))))))
    | (unfold am_br at ha; split at ha <;> split at ha <;> (cases ha <;> skip))
    | (split at ha <;> (first | (cases ha <;> skip) | (unfold am_br at ha; split at ha <;> split at ha <;> (cases ha <;> skip))))
    | (split at ha <;> (first | (cases ha <;> skip) | (split at ha <;> (first | (cases ha <;> skip) | (unfold am_abr at ha; split at ha <;> split at ha <;> (cases ha <;> skip))))))
set_option maxHeartbeats 4000000 in
theorem sn_act_call {cy : Nat} {as rr : List Value} (ha : am_act P p_ty p_df rt pc i x ls st h = some (.inr (.inr (cy, as, rr)))) : cy = x.1 ∧ rr.length ≤ 4 ∧
    ((∃ idx, i = .invokestatic idx ∧ ¬ x.2.2.2.1 = 11 ∧ am_pop x.2.1 [] st = some (as, rr) ∧ as.all am_c1 = true) ∨
     (∃ idx a as', i = .invokespecial idx ∧ ¬ x.2.2.2.1 = 10 ∧ as = .ref a :: as' ∧ am_pop x.2.1 [] st = some (as', .ref a :: rr) ∧ as'.all am_c1 = true) ∨
     (∃ idx a as' ci z, i = .invokevirtual idx ∧ ¬ x.2.2.2.1 = 13 ∧ as = .ref a :: as' ∧ am_pop x.2.1 [] st = some (as', .ref a :: rr) ∧ as'.all am_c1 = true ∧ am_cls h a = some ci ∧ x.2.2.1.lookup ci = some z)) := by
  unfold am_act at ha
  split at ha
  case h_52 idx =>
    split at ha
    · split at ha
      · split at ha
        · split at ha <;> cases ha
        · cases ha
      · cases ha
    · rename_i hk
      split at ha
      · rename_i as9 r9 hp
        split at ha
        · rename_i hc
          cases ha
          rw [Bool.and_eq_true] at hc
          exact ⟨rfl, Nat.le_of_ble_eq_true hc.1, Or.inl ⟨idx, rfl, hk, hp, hc.2⟩⟩
        · cases ha
      · cases ha
  case h_53 idx =>
    split at ha
    · split at ha
      · split at ha <;> cases ha
      · cases ha
    · rename_i hk
      split at ha
      · rename_i as9 a9 r9 hp
        split at ha
        · rename_i hc
          cases ha
          rw [Bool.and_eq_true] at hc
          exact ⟨rfl, Nat.le_of_ble_eq_true hc.1, Or.inr (Or.inl ⟨idx, a9, as9, rfl, hk, rfl, hp, hc.2⟩)⟩
        · cases ha
      · cases ha
  case h_54 idx =>
    split at ha
    · split at ha
      · split at ha
        · split at ha <;> cases ha
        · cases ha
      · cases ha
    · rename_i hk
      split at ha
      · rename_i as9 a9 r9 hp
        split at ha
        · rename_i ci hci
          split at ha
          · rename_i z hz
            split at ha
            · rename_i hc
              cases ha
              rw [Bool.and_eq_true] at hc
              exact ⟨rfl, Nat.le_of_ble_eq_true hc.1, Or.inr (Or.inr ⟨idx, a9, as9, ci, z, rfl, hk, rfl, hp, hc.2, hci, hz⟩)⟩
            · cases ha
          · cases ha
        · cases ha
      · cases ha
  all_goals first
    | (first | (cases ha <;> skip) | (split at ha <;> (first | (cases ha <;> skip) | (split at ha <;> (first | (cases ha <;> skip) | (split at ha <;> (first | (cases ha <;> skip) | (split at ha <;> (first | (cases ha <;> skip) | (split at ha <;> (cases ha <;> skip)))))))))))
    | (unfold am_br at ha; split at ha <;> split at ha <;> (cases ha <;> skip))
    | (split at ha <;> (first | (cases ha <;> skip) | (unfold am_br at ha; split at ha <;> split at ha <;> (cases ha <;> skip))))
    | (split at ha <;> (first | (cases ha <;> skip) | (split at ha <;> (first | (cases ha <;> skip) | (unfold am_abr at ha; split at ha <;> split at ha <;> (cases ha <;> skip))))))
end Act
