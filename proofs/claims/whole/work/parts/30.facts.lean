/-! What an act and a record leave alone. -/
theorem sa_V {S : sp} {a b c : Nat} (ha : a ≠ 0) : (sp_act S).2.2 a b c = S.2 a b c := by
  unfold sp_act
  split <;> simp [sE_2, sV_2, ha]
theorem sa_V0 {S : sp} {b c : Nat} (h2 : b ≠ 2) (h3 : b ≠ 3) (h4 : b ≠ 4) : (sp_act S).2.2 0 b c = S.2 0 b c := by
  unfold sp_act
  split <;> simp [sE_2, sV_2, h2, h3, h4]
theorem sa_N {S : sp} {a b c : Nat} (ha : a ≠ 4) : (sp_act S).2.1 a b c = S.1 a b c := by
  unfold sp_act
  split <;> simp [sE_1, sV_1, ha]
theorem sa_N4 {S : sp} {a b c : Nat} (ht : (sp_act S).1 = true) : (sp_act S).2.1 a b c = S.1 a b c := by
  unfold sp_act at ht ⊢
  split
  · rename_i hx; rw [if_pos hx] at ht; cases ht
  · simp [sV_1]
def sp_LP (S : sp) : Prop := S.2 0 3 0 = 0 ∨ 0 < S.2 0 3 0
theorem sa_LP {S : sp} (h : sp_LP S) : sp_LP (sp_act S).2 := by
  unfold sp_act sp_LP
  split
  · simp [sE_2, sV_2]
  · rename_i hx
    simp only [sV_2]
    simp
    split
    · right
      rename_i h1
      rw [i_lt] at h1 ⊢
      have z0 : (0 : Int32).toInt = 0 := rfl
      have z1 : (1 : Int32).toInt = 1 := rfl
      have hb := S.2 0 3 0 |>.toInt_lt
      have : (S.2 0 3 0 - 1).toInt = (S.2 0 3 0).toInt - 1 := by
        rw [Int32.toInt_sub, z1]
        apply Int.bmod_eq_of_le <;> omega
      omega
    · exact h
theorem sr_F {S : sp} {k o p n v : Int32} (hf : (sp_rec S k o p n v).1 = false) : (sp_act S).1 = false ∧ (sp_rec S k o p n v).2 = (sp_act S).2 := by
  unfold sp_rec at hf ⊢
  split
  · rename_i h; rw [if_pos h] at hf; cases hf
  · rename_i h; exact ⟨by simpa using h, rfl⟩
theorem sr_T {S : sp} {k o p n v : Int32} (ht : (sp_rec S k o p n v).1 = true) : (sp_act S).1 = true ∧ (sp_rec S k o p n v).2 = sp_app (sp_act S).2 k o p n v := by
  unfold sp_rec at ht ⊢
  split
  · rename_i h; exact ⟨h, rfl⟩
  · rename_i h; rw [if_neg h] at ht; cases ht
theorem sr_V {S : sp} {k o p n v : Int32} {a b c : Nat} (h0 : a ≠ 0) (h4 : a ≠ 4) : (sp_rec S k o p n v).2.2 a b c = S.2 a b c := by
  cases h : (sp_rec S k o p n v).1
  · rw [(sr_F h).2]; exact sa_V h0
  · rw [(sr_T h).2]; simp [sp_app, sN_2, sV_2, h4, sa_V h0]
theorem sr_V0 {S : sp} {k o p n v : Int32} {b c : Nat} (h2 : b ≠ 2) (h3 : b ≠ 3) (h4 : b ≠ 4) : (sp_rec S k o p n v).2.2 0 b c = S.2 0 b c := by
  cases h : (sp_rec S k o p n v).1
  · rw [(sr_F h).2]; exact sa_V0 h2 h3 h4
  · rw [(sr_T h).2]; simp [sp_app, sN_2, sV_2, sa_V0 h2 h3 h4]
theorem sr_V4 {S : sp} {k o p n v : Int32} {i c : Nat} (hi : i < S.1 1 0 0) : (sp_rec S k o p n v).2.2 4 i c = S.2 4 i c := by
  cases h : (sp_rec S k o p n v).1
  · rw [(sr_F h).2]; exact sa_V (by decide)
  · have hne : i ≠ S.1 1 0 0 := by omega
    rw [(sr_T h).2]; simp [sp_app, sN_2, sV_2, sa_V, sa_N, hne]
theorem sr_N {S : sp} {k o p n v : Int32} {a b c : Nat} (h1 : a ≠ 1) (h4 : a ≠ 4) : (sp_rec S k o p n v).2.1 a b c = S.1 a b c := by
  cases h : (sp_rec S k o p n v).1
  · rw [(sr_F h).2]; exact sa_N h4
  · rw [(sr_T h).2]; simp [sp_app, sN_1, sV_1, h1, sa_N h4]
theorem sr_N4 {S : sp} {k o p n v : Int32} {a b c : Nat} (h1 : a ≠ 1) (h : (sp_rec S k o p n v).1 = true) : (sp_rec S k o p n v).2.1 a b c = S.1 a b c := by
  rw [(sr_T h).2]; simp [sp_app, sN_1, sV_1, h1, sa_N4 (sr_T h).1]
theorem sr_nrT {S : sp} {k o p n v : Int32} (h : (sp_rec S k o p n v).1 = true) : (sp_rec S k o p n v).2.1 1 0 0 = S.1 1 0 0 + 1 := by
  rw [(sr_T h).2]; simp [sp_app, sN_1, sV_1, sa_N]
theorem sr_nrF {S : sp} {k o p n v : Int32} (h : (sp_rec S k o p n v).1 = false) : (sp_rec S k o p n v).2.1 1 0 0 = S.1 1 0 0 := by
  rw [(sr_F h).2]; exact sa_N (by decide)
theorem sr_nr {S : sp} {k o p n v : Int32} : (sp_rec S k o p n v).2.1 1 0 0 ≤ S.1 1 0 0 + 1 ∧ S.1 1 0 0 ≤ (sp_rec S k o p n v).2.1 1 0 0 := by
  cases h : (sp_rec S k o p n v).1
  · rw [sr_nrF h]; omega
  · rw [sr_nrT h]; omega
theorem sr_LP {S : sp} {k o p n v : Int32} (hl : sp_LP S) : sp_LP (sp_rec S k o p n v).2 := by
  have := sa_LP hl
  cases h : (sp_rec S k o p n v).1
  · rw [(sr_F h).2]; exact this
  · rw [(sr_T h).2]
    simpa [sp_LP, sp_app, sN_2, sV_2] using this
section GH
variable {M n s : Nat} {mem : Nat → am_C} {h : am_H} {S : sp} {pd : Int32}
/-- what the model doesn't hold -/
theorem MS.gN (hs : MS M n s mem pd h S) {k i j v : Nat} (hk : 9 ≤ k) : MS M n s mem pd h (sN S k i j v) := by
  obtain ⟨f, F, hv, hf, hF, hpd⟩ := hs
  have q0 : ¬ 0 = k := by omega
  have q1 : ¬ 1 = k := by omega
  have q2 : ¬ 2 = k := by omega
  have q3 : ¬ 3 = k := by omega
  have q4 : ¬ 4 = k := by omega
  have q5 : ¬ 5 = k := by omega
  have q6 : ¬ 6 = k := by omega
  have q7 : ¬ 7 = k := by omega
  have q8 : ¬ 8 = k := by omega
  refine ⟨f, F, hv, ?_, ?_, hpd⟩
  · obtain ⟨f1, f2, f3, f4, f5, f6, f7, f8, f9, f10⟩ := hf
    exact ⟨by simpa [sN_1, q0] using f1, by simpa [sN_1, q1] using f2, by simpa [sN_1, q3] using f3, f4, by simpa [sN_1, q2] using f5, f6, f7, f8, f9, f10⟩
  · simpa [m_F, sN_1, sN_2, q0, q1, q2, q3, q4, q5, q6, q7, q8] using hF
theorem MS.gV (hs : MS M n s mem pd h S) {k i j : Nat} {v : Int32} (hk : 13 ≤ k) : MS M n s mem pd h (sV S k i j v) := by
  obtain ⟨f, F, hv, hf, hF, hpd⟩ := hs
  have q : ∀ a, a < 13 → ¬ a = k := fun a ha => by omega
  refine ⟨f, F, hv, ?_, ?_, hpd⟩
  · simpa [m_f, sV_1, sV_2, q 0 (by decide)] using hf
  · simpa [m_F, sV_1, sV_2, q 1 (by decide), q 2 (by decide), q 3 (by decide), q 4 (by decide), q 5 (by decide), q 6 (by decide), q 7 (by decide), q 8 (by decide), q 9 (by decide), q 10 (by decide), q 11 (by decide), q 12 (by decide)] using hF
end GH
