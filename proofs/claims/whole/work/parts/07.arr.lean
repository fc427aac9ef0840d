/-! Arrays, new cells, the copy of arrays, statics, casts. -/
section Arr
variable {p : Program} {l : Launch} {e : Env} {R : Room} {s : State} {m : MethodId} {args : Array Value} {below : List Frame} {meth : Method} {c : Code} {H : Heap} {locs : List Loc} {cells slots : Nat} {Q : State → Prop}
variable {cc : ByteArray} {pc : Nat} {ls : Array Slot} {rest : List Value} {a : Nat}
variable {D : va_G} {cyI cyO : ClassId} {H0 : Heap} {b L : Nat} {xs : Nat → Int32} {P : Nat × Nat} {h : am_H}
theorem sn_one {q : Nat × va_E} {D : va_G} {cl : List vw_C} {H : Heap} (hq : va_at D cl q H) : va_P D cl [q] H := fun k z hz => by
  have hk : k < 1 := (List.getElem?_eq_some_iff.mp hz).1
  have : k = 0 := by omega
  subst this
  cases hz
  exact hq
theorem sn_w_iald {i v : Int32} (hx : p.tables.exec = Jvm.exec) (hb : c.code = cc) (hK : sn_K D cyI cyO H0 b L xs P s) (hH : sn_H D cyI cyO H0 b L xs P h H) (hv : am_iald h a i = some v) (hdg : decode cc pc = .ok (.iaload, 1))
    (k : W p l e R s m args below meth c H locs cells slots Q (F0 m (pc + 1) ls (.int v :: rest))) : W p l e R s m args below meth c H locs cells slots Q (F0 m pc ls (.int i :: .ref a :: rest)) := by
  unfold am_iald at hv
  split at hv
  · rename_i n f hc
    cases hi : am_ix i n with
    | none => rw [hi] at hv; cases hv
    | some j =>
      rw [hi] at hv
      cases hv
      obtain ⟨h1, h2⟩ := sn_ix hi
      subst h2
      exact va_iald hx hb hK.1 (sn_one (q := (a, .inl (cyI, n, .inl f))) (hH.at hc).2) 0 0 rfl rfl h1 hdg k
  · rename_i n f hc
    cases hi : am_ix i n with
    | none => rw [hi] at hv; cases hv
    | some j =>
      rw [hi] at hv
      cases hv
      obtain ⟨h1, h2⟩ := sn_ix hi
      subst h2
      obtain ⟨e1, e2, e3⟩ := hH.at hc
      subst e1; subst e2; subst e3
      obtain ⟨scr, g1, g2, g3, g4, g5⟩ := hK.2.1
      have hlt : i.toNatClampNeg < n := Nat.not_le.mp fun q => h1 (Or.inr q)
      exact W.iald (v := .int (f i.toNatClampNeg)) hx hb (by rw [hH.2.2.1 a hK.2.2.1]; exact g1) g2 g3 (by rw [g4]; exact h1) (g5 _ hlt) rfl rfl hdg k
  · cases hv
theorem sn_w_iast {i v : Int32} {h' : am_H} (hx : p.tables.exec = Jvm.exec) (hb : c.code = cc) (hK : sn_K D cyI cyO H0 b L xs P s) (hH : sn_H D cyI cyO H0 b L xs P h H) (hv : am_iast h a i v = some h') (hl : ∀ q ∈ locs, H0.size ≤ q.base) (hdg : decode cc pc = .ok (.iastore, 1))
    (k : ∀ (H1 : Heap) (locs1 : List Loc), sn_H D cyI cyO H0 b L xs P h' H1 → (∀ q ∈ locs1, H0.size ≤ q.base) → W p l e R s m args below meth c H1 locs1 cells slots Q (F0 m (pc + 1) ls rest)) : W p l e R s m args below meth c H locs cells slots Q (F0 m pc ls (.int v :: .int i :: .ref a :: rest)) := by
  unfold am_iast at hv
  split at hv
  · rename_i n f hc
    cases hi : am_ix i n with
    | none => rw [hi] at hv; cases hv
    | some j =>
      rw [hi] at hv
      cases hv
      obtain ⟨h1, h2⟩ := sn_ix hi
      subst h2
      obtain ⟨ha, hcell⟩ := hH.at hc
      refine W.iast hx hb hcell ((hK.1.2 0 _ rfl).1 n (fun j => .int (f j))) (fun q => by cases q) (by show ¬ (i < 0 ∨ (arrV _ _ _).slots.size ≤ _); rw [arrV_size]; exact h1) rfl rfl hdg fun H1 e z oq => ?_
      refine k H1 _ (sn_put hH ha z oq ⟨ha, ?_⟩ (fun ci fs h9 => by rw [hc] at h9; cases h9) (fun n f h9 => by cases h9)) (fun q hq => ?_)
      · rw [e]
        rw [vp_cell_i, vp_cell_i, arrV_store]
        congr 2
        funext q
        by_cases hq : q = i.toNatClampNeg
        · subst hq
          simp [updV, upd]
        · simp [updV, upd, hq]
      · rcases List.mem_append.mp hq with h9 | h9
        · exact hl q h9
        · rw [List.mem_singleton.mp h9]; exact ha
  · cases hv
theorem sn_w_aald {i : Int32} {v : Option Nat} (hx : p.tables.exec = Jvm.exec) (hb : c.code = cc) (hK : sn_K D cyI cyO H0 b L xs P s) (hH : sn_H D cyI cyO H0 b L xs P h H) (hv : am_aald h a i = some v) (hdg : decode cc pc = .ok (.aaload, 1))
    (k : W p l e R s m args below meth c H locs cells slots Q (F0 m (pc + 1) ls (va_rf v :: rest))) : W p l e R s m args below meth c H locs cells slots Q (F0 m pc ls (.int i :: .ref a :: rest)) := by
  unfold am_aald at hv
  split at hv
  · rename_i n f hc
    cases hi : am_ix i n with
    | none => rw [hi] at hv; cases hv
    | some j =>
      rw [hi] at hv
      cases hv
      obtain ⟨h1, h2⟩ := sn_ix hi
      subst h2
      exact va_aldq hx hb hK.1 (sn_one (q := (a, .inl (cyO, n, .inr (.inr (.inr (.inr f)))))) (hH.at hc).2) 0 1 rfl rfl h1 hdg k
  · cases hv
/-- each class of ours but ArrayList goes into an array of objects -/
def sn_casts : Bool := (List.range 10).all (fun ci => decide (ci = 0) || (match p_cl[ci]? with
  | some r => decide (Jvm.Cond.castable r.1 "java/lang/Object" ∈ lw_tbl)
  | none => false))
theorem sn_casts_ok : sn_casts = true := by decide +kernel
theorem sn_cast {ci : Nat} {r : vw_C} (hc : p_cl[ci]? = some r) (h0 : 0 < ci) : Jvm.Cond.castable r.1 "java/lang/Object" ∈ lw_tbl := by
  have hlt : ci < 10 := (List.getElem?_eq_some_iff.mp hc).1
  have h1 := List.all_eq_true.mp sn_casts_ok ci (List.mem_range.mpr hlt)
  simp only [hc, Bool.or_eq_true, decide_eq_true_eq] at h1
  rcases h1 with h1 | h1
  · omega
  · exact h1
/-- what an object of ours is to an array of objects -/
theorem sn_any {y : Nat} (hK : sn_K D cyI cyO H0 b L xs P s) (hH : sn_H D cyI cyO H0 b L xs P h H) (ho : sn_obj h y) : va_Any "java/lang/Object" s H y := by
  obtain ⟨ci, fs, hc, h0⟩ := ho
  obtain ⟨ha, r, hr, hob⟩ := hH.at hc
  have hN := hK.2.2.2.2.2.2.2.2.2 _ (sn_cast hr h0) rfl
  obtain ⟨c0, t1, f1, f2, f3⟩ := Cond.castable_spec (va_Nw.use (A := #[]) rfl hN)
  refine va_rAny (q0 := 0) hK.1 (sn_one (q := (y, .inr (ci, fs))) ⟨r, hr, hob⟩) rfl hr (fun comp c1 g1 g2 => ?_)
  cases f1.symm.trans g2
  cases f2.symm.trans g1
  exact f3
theorem sn_w_aast {i : Int32} {v : Nat} {h' : am_H} (hx : p.tables.exec = Jvm.exec) (hb : c.code = cc) (hK : sn_K D cyI cyO H0 b L xs P s) (hH : sn_H D cyI cyO H0 b L xs P h H) (hv : am_aast h a i v = some h') (hl : ∀ q ∈ locs, H0.size ≤ q.base) (hdg : decode cc pc = .ok (.aastore, 1))
    (k : ∀ (H1 : Heap) (locs1 : List Loc), sn_H D cyI cyO H0 b L xs P h' H1 → (∀ q ∈ locs1, H0.size ≤ q.base) → W p l e R s m args below meth c H1 locs1 cells slots Q (F0 m (pc + 1) ls rest)) : W p l e R s m args below meth c H locs cells slots Q (F0 m pc ls (.ref v :: .int i :: .ref a :: rest)) := by
  unfold am_aast at hv
  split at hv
  · rename_i n f hc
    split at hv
    · rename_i ci fs hcv
      split at hv
      · cases hv
      · rename_i hci
        cases hi : am_ix i n with
        | none => rw [hi] at hv; cases hv
        | some j =>
          rw [hi] at hv
          cases hv
          obtain ⟨h1, h2⟩ := sn_ix hi
          subst h2
          have hob : sn_obj h v := ⟨ci, fs, hcv, by omega⟩
          obtain ⟨ha, hcell⟩ := hH.at hc
          have hlt : i.toNatClampNeg < n := Nat.not_le.mp fun q => h1 (Or.inr q)
          have h0 : ¬ i < 0 := fun q => h1 (Or.inl q)
          obtain ⟨cellV, g1, g2, ⟨kC, g3⟩, g4⟩ := sn_any hK hH hob
          obtain ⟨kA, comp, k1, k2, k3, -⟩ := (hK.1.2 1 _ rfl).2
          obtain ⟨kE, hkE, -⟩ := Vm.findClass_spec k3
          refine W.aast hx hb hcell (fun q h => by cases h) (fun h => by cases h) k1 k2 rfl hkE ⟨h0, by show _ < (arrV _ _ _).slots.size; rw [arrV_size]; exact hlt⟩ g1 (fun q h => by rw [h] at g2; cases g2) g3 (g4 comp k3) rfl rfl hdg fun H1 e z oq => ?_
          refine k H1 _ (sn_put hH ha z oq ⟨ha, ?_⟩ (fun ci fs h9 => by rw [hc] at h9; cases h9) (fun n' f' h9 j y hy => ?_)) (fun q hq => ?_)
          · rw [e]
            rw [vp_cell_q, vp_cell_q, arrV_store]
            congr 2
            funext q
            by_cases hq : q = i.toNatClampNeg
            · subst hq
              simp [updV, va_up, va_rf]
            · simp [updV, va_up, hq]
          · cases h9
            by_cases hj : j = i.toNatClampNeg
            · subst hj
              simp [va_up] at hy
              subst hy
              exact hob
            · simp [va_up, hj] at hy
              exact hH.2.2.2.2 a n f hc j y hy
          · rcases List.mem_append.mp hq with h9 | h9
            · exact hl q h9
            · rw [List.mem_singleton.mp h9]; exact ha
    · cases hv
  · cases hv
theorem sn_w_alen {n : Int32} (hx : p.tables.exec = Jvm.exec) (hb : c.code = cc) (hK : sn_K D cyI cyO H0 b L xs P s) (hH : sn_H D cyI cyO H0 b L xs P h H) (hv : am_alen h a = some n) (hdg : decode cc pc = .ok (.arraylength, 1))
    (k : W p l e R s m args below meth c H locs cells slots Q (F0 m (pc + 1) ls (.int n :: rest))) : W p l e R s m args below meth c H locs cells slots Q (F0 m pc ls (.ref a :: rest)) := by
  unfold am_alen at hv
  split at hv
  · rename_i N f hc
    cases hv
    exact va_alen hx hb hK.1 (sn_one (q := (a, .inl (cyI, N, .inl f))) (hH.at hc).2) 0 0 rfl rfl rfl hdg k
  · rename_i N f hc
    cases hv
    exact va_alen hx hb hK.1 (sn_one (q := (a, .inl (cyO, N, .inr (.inr (.inr (.inr f)))))) (hH.at hc).2) 0 1 rfl rfl rfl hdg k
  · rename_i N f hc
    cases hv
    obtain ⟨e1, e2, e3⟩ := hH.at hc
    subst e1; subst e2; subst e3
    obtain ⟨scr, g1, g2, g3, g4, g5⟩ := hK.2.1
    exact W.alen (n := Int32.ofNat N) hx hb (by rw [hH.2.2.1 a hK.2.2.1]; exact g1) g2 (by rw [g4] <;> rfl) rfl rfl hdg k
  · rename_i hc
    cases hv
    have e1 : a = P.1 := hH.at hc
    subst e1
    obtain ⟨cell, g1, g2, g3⟩ := hK.2.2.2.2.1
    exact W.alen (n := 0) hx hb (by rw [hH.2.2.1 _ hK.2.2.2.2.2.1]; exact g1) g2 g3 rfl rfl hdg k
  · cases hv
theorem sn_w_new {own : String} {idx ci : Nat} {C : String} {T : u_T} {N : Nat} (hx : p.tables.exec = Jvm.exec) (hb : c.code = cc) (hts : ∀ w ∈ sn_gw, w.before args s = true) (hown : s.vm.findClass own = some m.cls) (hK : sn_K D cyI cyO H0 b L xs P s) (hH : sn_H D cyI cyO H0 b L xs P h H) (hc : p_cl[ci]? = some (C, T, N)) (h1 : Jvm.Cond.classLink own idx C ∈ sn_gw) (h2 : Jvm.Cond.instantiable C N ∈ sn_gw) (h3 : Jvm.Cond.initialized C ∈ sn_gw) (hcells : cells + 1 ≤ R.cells) (hslots : slots + N ≤ R.slots) (hdg : decode cc pc = .ok (.new idx, 3))
    (k : ∀ (H1 : Heap), sn_H D cyI cyO H0 b L xs P (ah_new h (p_df ci).length (ac_O ci (p_df ci))) H1 → W p l e R s m args below meth c H1 locs (cells + 1) (slots + N) Q (F0 m (pc + 3) ls (.ref h.1 :: rest))) : W p l e R s m args below meth c H locs cells slots Q (F0 m pc ls rest) := by
  have hKn := hK.1.1 ci _ hc
  obtain ⟨u1, u2, u3, u4, u5⟩ := sn_cls ci C T N hc
  refine W.newcK hx hb hown (hts _ h1) (hts _ h2) (hts _ h3) rfl hdg hcells hslots hKn.2.1 hH.1 fun H1 kC hkC e1 z1 o1 => ?_
  exact k H1 (sn_new hH z1 o1 ⟨hH.2.1, _, hc, (u_born (p_ty ci) hts u1 hKn hkC e1 u2).to u4⟩ (fun n f h9 => by cases h9))
theorem sn_w_newa {n : Int32} (hx : p.tables.exec = Jvm.exec) (hb : c.code = cc) (hK : sn_K D cyI cyO H0 b L xs P s) (hH : sn_H D cyI cyO H0 b L xs P h H) (hts : ∀ w ∈ sn_gw, w.before args s = true) (h1 : Jvm.Cond.arrayClass .int ∈ sn_gw) (hn : ¬ (n.toInt < 0 ∨ 1000000 < n.toInt)) (hcells : cells + 1 ≤ R.cells) (hslots : slots + n.toNatClampNeg ≤ R.slots) (hdg : decode cc pc = .ok (.newarray .int, 2))
    (k : ∀ (H1 : Heap), sn_H D cyI cyO H0 b L xs P (ah_new h n.toNatClampNeg (ac_I n.toNatClampNeg (fun _ => 0))) H1 → W p l e R s m args below meth c H1 locs (cells + 1) (slots + n.toNatClampNeg) Q (F0 m (pc + 2) ls (.ref h.1 :: rest))) : W p l e R s m args below meth c H locs cells slots Q (F0 m pc ls (.int n :: rest)) := by
  have hn0 : ¬ n < 0 := fun q => hn (Or.inl (by simpa using Int32.lt_iff_toInt_lt.mp q))
  have hN : n.toNatClampNeg ≤ 1000000 := by
    show n.toInt.toNat ≤ 1000000
    omega
  refine va_newaK (atype := .int) hx hb (hts _ h1) rfl hdg rfl hn0 rfl (by show n.toNatClampNeg * 4 ≤ _; omega) hcells hslots hH.1 fun H1 cA e1 z1 o1 hAr hNm => ?_
  have hcA : cA = cyI := by
    have h9 : s.vm.findClass ("[" ++ FieldType.int.toString) = some cyI := (hK.1.2 0 _ rfl).2
    exact Option.some.inj (hNm.symm.trans h9)
  subst hcA
  exact k H1 (sn_new hH z1 o1 ⟨hH.2.1, e1⟩ (fun n f h9 => by cases h9))
theorem sn_w_newr {own : String} {idx : Nat} {n : Int32} (hx : p.tables.exec = Jvm.exec) (hb : c.code = cc) (hK : sn_K D cyI cyO H0 b L xs P s) (hH : sn_H D cyI cyO H0 b L xs P h H) (hts : ∀ w ∈ sn_gw, w.before args s = true) (hown : s.vm.findClass own = some m.cls) (h1 : Jvm.Cond.classLink own idx "java/lang/Object" ∈ sn_gw) (hn : ¬ (n.toInt < 0 ∨ 1000000 < n.toInt)) (hcells : cells + 1 ≤ R.cells) (hslots : slots + n.toNatClampNeg ≤ R.slots) (hdg : decode cc pc = .ok (.anewarray idx, 3))
    (k : ∀ (H1 : Heap), sn_H D cyI cyO H0 b L xs P (ah_new h n.toNatClampNeg (ac_R n.toNatClampNeg (fun _ => none))) H1 → W p l e R s m args below meth c H1 locs (cells + 1) (slots + n.toNatClampNeg) Q (F0 m (pc + 3) ls (.ref h.1 :: rest))) : W p l e R s m args below meth c H locs cells slots Q (F0 m pc ls (.int n :: rest)) := by
  have hn0 : ¬ n < 0 := fun q => hn (Or.inl (by simpa using Int32.lt_iff_toInt_lt.mp q))
  have hN : n.toNatClampNeg ≤ 1000000 := by
    show n.toInt.toNat ≤ 1000000
    omega
  refine W.anew hx hb hown (hts _ h1) (va_AO.use hK.2.2.2.2.2.2.2.1) rfl hdg rfl hn0 (by omega) hcells hslots fun cA kA comp f1 f2 f3 f4 => ?_
  have hcA : cA = cyO := by
    obtain ⟨_, _, -, -, -, h9⟩ := (hK.1.2 1 _ rfl).2
    exact Option.some.inj (f1.symm.trans h9)
  subst hcA
  have hsz := hH.1
  have hz : (H.push ({ cls := cA, slots := Array.replicate n.toNatClampNeg .null, vm := .none } : Cell)).size = h.1 + 1 := by rw [Array.size_push, hsz]
  have he : (H.push ({ cls := cA, slots := Array.replicate n.toNatClampNeg .null, vm := .none } : Cell))[h.1]? = some (arrV cA n.toNatClampNeg (fun _ => .null)) := by rw [← hsz, Array.getElem?_push_size, ← arrV_new]
  have ho : ∀ q : Nat, q < h.1 → (H.push ({ cls := cA, slots := Array.replicate n.toNatClampNeg .null, vm := .none } : Cell))[q]? = H[q]? := fun q hq => by rw [Array.getElem?_push, if_neg (by omega)]
  have hk := k _ (sn_new hH hz ho ⟨hH.2.1, by rw [vp_cell_q]; exact he⟩ (fun n f h9 => by cases h9; exact fun _ => rfl))
  rw [← hsz] at hk
  exact hk
end Arr
