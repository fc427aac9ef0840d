/-! Checks of the program's tables (decided by the kernel), and the instructions that read and write cells. -/
def sn_fok (ref nm d : String) (al : List (Nat × Nat)) : Bool := al.all (fun q => match p_cl[q.1]? with
  | some r => decide (q.2 < r.2.2) && (decide ((r.2.1 q.2).2.1 = nm) && (decide ((r.2.1 q.2).2.2.1 = d) && (decide ((r.2.1 q.2).1 = ref) || (decide (Jvm.Cond.sameField ref (r.2.1 q.2).1 nm d ∈ lw_tbl) && goodWord (Jvm.Cond.sameField ref (r.2.1 q.2).1 nm d)))))
  | none => false)
def sn_getf (own : String) (idx : Nat) (al : List (Nat × Nat)) (ix : Nat) : Bool := match lw_tbl[ix]? with
  | some (.fieldLink o i r nm d) => decide (o = own) && (decide (i = idx) && (goodWord (.fieldLink o i r nm d) && sn_fok r nm d al))
  | some (.fieldLinkNest o i r nm d _) => decide (o = own) && (decide (i = idx) && sn_fok r nm d al)
  | _ => false
def sn_nfin (al : List (Nat × Nat)) : Bool := al.all (fun q => match p_cl[q.1]? with
  | some r => !(r.2.1 q.2).2.2.2
  | none => false)
def sn_fin (own : String) (al : List (Nat × Nat)) : Bool := al.all (fun q => match p_cl[q.1]? with
  | some r => (r.2.1 q.2).2.2.2 && decide ((r.2.1 q.2).1 = own)
  | none => false)
def sn_isP (ix : Nat) : Bool := match lw_tbl[ix]? with
  | some (.fieldLink ..) => true
  | _ => false
/-- a field may be written: it isn't final; or it is the class's own, in its constructor -/
def sn_putf (own mn : String) (idx : Nat) (al : List (Nat × Nat)) (ix : Nat) : Bool := sn_getf own idx al ix && (sn_nfin al || (sn_isP ix && (sn_fin own al && decide (mn = "<init>"))))
theorem sn_in {w : Jvm.Cond} {ix : Nat} (h : lw_tbl[ix]? = some w) (hg : goodWord w = true) : w ∈ sn_gw := List.mem_filter.mpr ⟨List.mem_of_getElem? h, hg⟩
theorem sn_inM {w : Jvm.Cond} (h : w ∈ lw_tbl) (hg : goodWord w = true) : w ∈ sn_gw := List.mem_filter.mpr ⟨h, hg⟩
theorem sn_fok_at {ref nm d : String} {al : List (Nat × Nat)} {ci k : Nat} (h : sn_fok ref nm d al = true) (hk : al.lookup ci = some k) : ∃ C T N, p_cl[ci]? = some (C, T, N) ∧ k < N ∧ (T k).2.1 = nm ∧ (T k).2.2.1 = d ∧ ((T k).1 = ref ∨ Jvm.Cond.sameField ref (T k).1 nm d ∈ sn_gw) := by
  have hm : (ci, k) ∈ al := by
    clear h
    induction al with
    | nil => cases hk
    | cons q al ih =>
      obtain ⟨q1, q2⟩ := q
      rw [List.lookup_cons] at hk
      split at hk
      · rename_i hq
        cases hk
        rw [eq_of_beq hq]
        exact List.mem_cons_self
      · exact List.mem_cons_of_mem _ (ih hk)
  have h1 := List.all_eq_true.mp h (ci, k) hm
  simp only at h1
  split at h1
  · rename_i r hr
    obtain ⟨C, T, N⟩ := r
    simp only [Bool.and_eq_true, Bool.or_eq_true, decide_eq_true_eq] at h1
    obtain ⟨a1, a2, a3, a4⟩ := h1
    refine ⟨C, T, N, hr, a1, a2, a3, ?_⟩
    rcases a4 with a4 | a4
    · exact Or.inl a4
    · exact Or.inr (sn_inM a4.1 a4.2)
  · cases h1
theorem sn_all_at {al : List (Nat × Nat)} {ci k : Nat} {p : vw_C → Nat → Bool} {C : String} {T : u_T} {N : Nat} (h : al.all (fun q => match p_cl[q.1]? with
  | some r => p r q.2
  | none => false) = true) (hk : al.lookup ci = some k) (hr : p_cl[ci]? = some (C, T, N)) : p (C, T, N) k = true := by
  have hm : (ci, k) ∈ al := by
    clear h
    induction al with
    | nil => cases hk
    | cons q al ih =>
      obtain ⟨q1, q2⟩ := q
      rw [List.lookup_cons] at hk
      split at hk
      · rename_i hq
        cases hk
        rw [eq_of_beq hq]
        exact List.mem_cons_self
      · exact List.mem_cons_of_mem _ (ih hk)
  have h1 := List.all_eq_true.mp h (ci, k) hm
  simp only [hr] at h1
  exact h1
/-- each class: its fields' words are in the tables; names differ; types; values at birth -/
def sn_clok (ci : Nat) : Prop := ∀ C T N, p_cl[ci]? = some (C, T, N) → (∀ w ∈ u_ws C T N, w ∈ sn_gw) ∧ (∀ k, k < N → parseFieldDescriptor (T k).2.2.1 = some (p_ty ci k)) ∧ (∀ a, a < N → ∀ b, b < N → a ≠ b → (T a).2.1 ≠ (T b).2.1) ∧ (∀ k, k < N → defaultValue (p_ty ci k) = vp_V (p_df ci) k) ∧ (p_df ci).length = N
def sn_uok (ws : List Jvm.Cond) : Bool := ws.all (fun w => decide (w ∈ lw_tbl) && goodWord w)
theorem sn_uok_in {ws : List Jvm.Cond} (h : sn_uok ws = true) : ∀ w ∈ ws, w ∈ sn_gw := by
  intro w hw
  have h1 := List.all_eq_true.mp h w hw
  simp only [Bool.and_eq_true, decide_eq_true_eq] at h1
  exact sn_inM h1.1 h1.2
theorem sn_u0 : sn_uok (u_ws pR0 pT0 3) = true := by decide +kernel
theorem sn_u1 : sn_uok (u_ws pR1 pT1 3) = true := by decide +kernel
theorem sn_u2 : sn_uok (u_ws pR2 pT2 3) = true := by decide +kernel
theorem sn_u3 : sn_uok (u_ws pR3 pT3 3) = true := by decide +kernel
theorem sn_u4 : sn_uok (u_ws pR4 pT4 10) = true := by decide +kernel
theorem sn_u5 : sn_uok (u_ws pR5 pT5 7) = true := by decide +kernel
theorem sn_u6 : sn_uok (u_ws pR6 pT6 3) = true := by decide +kernel
theorem sn_u7 : sn_uok (u_ws pR7 pT7 4) = true := by decide +kernel
theorem sn_u8 : sn_uok (u_ws pR8 pT8 9) = true := by decide +kernel
theorem sn_u9 : sn_uok (u_ws pR9 pT9 34) = true := by decide +kernel
theorem sn_cls : ∀ ci, sn_clok ci := by
  intro ci C T N h
  rcases ci with _ | _ | _ | _ | _ | _ | _ | _ | _ | _ | ci
  · cases h; exact ⟨sn_uok_in sn_u0, pY0, pN0, pD0, rfl⟩
  · cases h; exact ⟨sn_uok_in sn_u1, pY1, pN1, pD1, rfl⟩
  · cases h; exact ⟨sn_uok_in sn_u2, pY2, pN2, pD2, rfl⟩
  · cases h; exact ⟨sn_uok_in sn_u3, pY3, pN3, pD3, rfl⟩
  · cases h; exact ⟨sn_uok_in sn_u4, pY4, pN4, pD4, rfl⟩
  · cases h; exact ⟨sn_uok_in sn_u5, pY5, pN5, pD5, rfl⟩
  · cases h; exact ⟨sn_uok_in sn_u6, pY6, pN6, pD6, rfl⟩
  · cases h; exact ⟨sn_uok_in sn_u7, pY7, pN7, pD7, rfl⟩
  · cases h; exact ⟨sn_uok_in sn_u8, pY8, pN8, pD8, rfl⟩
  · cases h; exact ⟨sn_uok_in sn_u9, pY9, pN9, pD9, rfl⟩
  · simp [p_cl] at h
theorem sn_okf {ty : FieldType} {v : Value} (h : am_okf ty v = true) : narrow ty v = v ∧ fits ty v = true := by
  unfold am_okf at h
  split at h
  · split at h
    · exact ⟨rfl, rfl⟩
    · cases h
  · split at h
    · rename_i x
      simp only [Bool.or_eq_true, beq_iff_eq] at h
      rcases h with rfl | rfl <;> exact ⟨by decide +kernel, by decide +kernel⟩
    · cases h
  · split at h
    · exact ⟨rfl, rfl⟩
    · exact ⟨rfl, rfl⟩
    · cases h
  · split at h
    · exact ⟨rfl, rfl⟩
    · exact ⟨rfl, rfl⟩
    · cases h
  · cases h
theorem sn_ix {i : Int32} {n k : Nat} (h : am_ix i n = some k) : vp_in i n ∧ i.toNatClampNeg = k := by
  unfold am_ix at h
  split at h
  · rename_i hi
    cases h
    exact ⟨vp_in_iff.mpr hi, rfl⟩
  · cases h
section Mem
variable {p : Program} {l : Launch} {e : Env} {R : Room} {s : State} {m : MethodId} {args : Array Value} {below : List Frame} {meth : Method} {c : Code} {H : Heap} {locs : List Loc} {cells slots : Nat} {Q : State → Prop}
variable {cc : ByteArray} {pc : Nat} {ls : Array Slot} {rest : List Value} {a : Nat}
variable {D : va_G} {cyI cyO : ClassId} {H0 : Heap} {b L : Nat} {xs : Nat → Int32} {P : Nat × Nat} {h : am_H}
theorem sn_w_get {own : String} {idx ix : Nat} {al : List (Nat × Nat)} {v : Value} (hx : p.tables.exec = Jvm.exec) (hb : c.code = cc) (hts : ∀ w ∈ sn_gw, w.before args s = true) (hown : s.vm.findClass own = some m.cls) (hK : sn_K D cyI cyO H0 b L xs P s) (hH : sn_H D cyI cyO H0 b L xs P h H) (hck : sn_getf own idx al ix = true) (hv : am_gf h a al = some v) (hdg : decode cc pc = .ok (.getfield idx, 3))
    (k : W p l e R s m args below meth c H locs cells slots Q (F0 m (pc + 3) ls (v :: rest))) : W p l e R s m args below meth c H locs cells slots Q (F0 m pc ls (.ref a :: rest)) := by
  unfold am_gf at hv
  split at hv
  · rename_i ci fs hc
    split at hv
    · rename_i j hj
      have hcell := (hH.at hc).2
      have hP : va_P D p_cl [(a, .inr (ci, fs))] H := fun k q hq => by
        have hz : k < 1 := (List.getElem?_eq_some_iff.mp hq).1
        have : k = 0 := by omega
        subst this
        cases hq
        exact hcell
      unfold sn_getf at hck
      split at hck
      · rename_i o i r nm d hw
        simp only [Bool.and_eq_true, decide_eq_true_eq] at hck
        obtain ⟨rfl, rfl, hg, hf⟩ := hck
        obtain ⟨C, T, N, c1, c2, c3, c4, c5⟩ := sn_fok_at hf hj
        subst c3; subst c4
        exact va_get hx hb hts (sn_cls ci C T N c1).1 hown hK.1 hP 0 rfl c1 j c2 (hts _ (sn_in hw hg)) (fun x h9 => by
          rcases c5 with c5 | c5
          · rw [← c5]; exact h9
          · exact u_same (hts _ c5) x h9) hv hdg k
      · rename_i o i r nm d ho hw
        simp only [Bool.and_eq_true, decide_eq_true_eq] at hck
        obtain ⟨rfl, rfl, hf⟩ := hck
        obtain ⟨C, T, N, c1, c2, c3, c4, c5⟩ := sn_fok_at hf hj
        subst c3; subst c4
        have hN := hK.2.2.2.2.2.2.2.2.2 _ (List.mem_of_getElem? hw) rfl
        exact va_getN hx hb hts (sn_cls ci C T N c1).1 hown hK.1 hP 0 rfl c1 j c2 (va_Nw.use rfl hN) (fun x h9 => by
          rcases c5 with c5 | c5
          · rw [← c5]; exact h9
          · exact u_same (hts _ c5) x h9) hv hdg k
      · cases hck
    · cases hv
  · cases hv
theorem sn_w_put {own mn : String} {idx ix : Nat} {al : List (Nat × Nat)} {v : Value} {h' : am_H} (hx : p.tables.exec = Jvm.exec) (hb : c.code = cc) (hts : ∀ w ∈ sn_gw, w.before args s = true) (hown : s.vm.findClass own = some m.cls) (hK : sn_K D cyI cyO H0 b L xs P s) (hH : sn_H D cyI cyO H0 b L xs P h H) (hmn : mn = "<init>" → meth.name = "<init>") (hck : sn_putf own mn idx al ix = true) (hv : am_pf p_ty h a al v = some h') (hl : ∀ q ∈ locs, H0.size ≤ q.base) (hdg : decode cc pc = .ok (.putfield idx, 3))
    (k : ∀ (H1 : Heap) (locs1 : List Loc), sn_H D cyI cyO H0 b L xs P h' H1 → (∀ q ∈ locs1, H0.size ≤ q.base) → W p l e R s m args below meth c H1 locs1 cells slots Q (F0 m (pc + 3) ls rest)) : W p l e R s m args below meth c H locs cells slots Q (F0 m pc ls (v :: .ref a :: rest)) := by
  unfold am_pf at hv
  split at hv
  · rename_i ci fs hc
    split at hv
    · rename_i j hj
      split at hv
      · rename_i hcond
        obtain ⟨hlen, hokf⟩ := hcond
        cases hv
        obtain ⟨ha, r0, hr0, cell, q1, q2, q3, q4⟩ := hH.at hc
        unfold sn_putf at hck
        rw [Bool.and_eq_true] at hck
        obtain ⟨hck, hfin⟩ := hck
        have fin : ∀ (C : String) (T : u_T) (N : Nat), p_cl[ci]? = some (C, T, N) → (T j).2.2.2 = false ∨ ((T j).2.2.2 = true ∧ (T j).1 = own ∧ meth.name = "<init>" ∧ sn_isP ix = true) := by
          intro C T N hcl
          rw [Bool.or_eq_true] at hfin
          rcases hfin with hf | hf
          · left
            have := sn_all_at (p := fun r k => !(r.2.1 k).2.2.2) hf hj hcl
            simpa using this
          · right
            simp only [Bool.and_eq_true, decide_eq_true_eq] at hf
            have := sn_all_at (p := fun r k => (r.2.1 k).2.2.2 && decide ((r.2.1 k).1 = own)) hf.2.1 hj hcl
            simp only [Bool.and_eq_true, decide_eq_true_eq] at this
            exact ⟨this.1, this.2, hmn hf.2.2, hf.1⟩
        have done : ∀ (C : String) (T : u_T) (N : Nat) (H1 : Heap), p_cl[ci]? = some (C, T, N) → j < N → H1[a]? = some (cell.setSlot (D.2 ci j) v) → H1.size = H.size → (∀ q, q ≠ a → H1[q]? = H[q]?) → sn_H D cyI cyO H0 b L xs P (ah_put h a (ac_O ci (fs.set j v))) H1 := by
          intro C T N H1 hcl hjN e1 e2 e3
          have hr : r0 = (C, T, N) := Option.some.inj (hr0.symm.trans hcl)
          subst hr
          obtain ⟨u1, u2, u3, -⟩ := sn_cls ci C T N hcl
          have hap := va_apart (own := own) hts u1 (p_ty ci) u2 u3 hK.1 hcl
          refine sn_put hH ha e2 e3 ⟨ha, _, hcl, t_OB.to (V := updV (vp_V fs) j v) ⟨_, e1, q2, q3, t_set q4 hap hjN v⟩ (fun i _ => vp_updV_set hlen v i)⟩ (fun ci' fs' h9 => ?_) (fun n f h9 => by cases h9)
          rw [hc] at h9
          cases h9
          exact ⟨_, rfl⟩
        have hloc : ∀ (i : Nat), ∀ q ∈ locs ++ [(⟨a, i⟩ : Loc)], H0.size ≤ q.base := by
          intro i q hq
          rcases List.mem_append.mp hq with h9 | h9
          · exact hl q h9
          · rw [List.mem_singleton.mp h9]; exact ha
        unfold sn_getf at hck
        split at hck
        · rename_i o i r nm d hw
          simp only [Bool.and_eq_true, decide_eq_true_eq] at hck
          obtain ⟨rfl, rfl, hg, hf⟩ := hck
          obtain ⟨C, T, N, c1, c2, c3, c4, c5⟩ := sn_fok_at hf hj
          subst c3; subst c4
          have hr : r0 = (C, T, N) := Option.some.inj (hr0.symm.trans c1)
          subst hr
          obtain ⟨u1, u2, u3, -⟩ := sn_cls ci C T N c1
          obtain ⟨hS, hfc, kC, hkC, hkind⟩ := hK.1.1 ci _ c1
          obtain ⟨cf, kf, fi, f, hi, hsl⟩ := hS j c2
          have hst := (u_facts hfc hkC (u_lays hts u1 c2) hi).1
          have hlay := hts _ (u1 _ (u_in_lay c2))
          unfold u_lay at hlay
          have hsame : ∀ x, s.fieldFound? (T j).1 (T j).2.1 (T j).2.2.1 = some x → s.fieldFound? r (T j).2.1 (T j).2.2.1 = some x := fun x h9 => by
            rcases c5 with c5 | c5
            · rw [← c5]; exact h9
            · exact u_same (hts _ c5) x h9
          obtain ⟨hn, hfit⟩ := sn_okf hokf
          rcases fin C T N c1 with hnf | ⟨hff, hdecl, hin2, -⟩
          · rw [if_neg (by rw [hnf]; decide)] at hlay
            have h6 := u_store hfc hkC hkind hlay hi (u2 j c2) hn hfit
            refine W.putK hx hb (f := f) ⟨hown, hts _ (sn_in hw hg), ⟨_, _, _, hsame _ hi⟩, hst⟩ (by rw [q2]; exact h6) q1 q3 (by rw [hsl]; exact k2_hasslot (q4 j c2)) rfl rfl hdg fun H' e1 e2 e3 => ?_
            rw [hsl] at e1 ⊢
            exact k H' _ (done C T N H' c1 c2 e1 e2 e3) (hloc _)
          · rw [if_pos hff] at hlay
            have hcf : m.cls = cf := by
              obtain ⟨_, _, c', _, _, _, -, -, hf', -, -, -, hown2, -⟩ := Cond.laysFinal_spec hlay
              have e1 : c' = cf := by have := hi.symm.trans hf'; simp at this; exact this.1.symm
              rw [hdecl] at hown2
              rw [← e1]; exact Option.some.inj (hown.symm.trans hown2)
            have h6 := u_fits hfc hkC hkind (Or.inr hlay) hi (u2 j c2) hn hfit
            refine W.putFinK hx hb hown (hts _ (sn_in hw hg)) (hsame _ hi) hst hcf hin2 (by rw [q2]; exact h6) q1 q3 (by rw [hsl]; exact k2_hasslot (q4 j c2)) rfl rfl hdg fun H' e1 e2 e3 => ?_
            rw [hsl] at e1 ⊢
            exact k H' _ (done C T N H' c1 c2 e1 e2 e3) (hloc _)
        · rename_i o i r nm d ho hw
          simp only [Bool.and_eq_true, decide_eq_true_eq] at hck
          obtain ⟨rfl, rfl, hf⟩ := hck
          obtain ⟨C, T, N, c1, c2, c3, c4, c5⟩ := sn_fok_at hf hj
          subst c3; subst c4
          have hr : r0 = (C, T, N) := Option.some.inj (hr0.symm.trans c1)
          subst hr
          obtain ⟨u1, u2, u3, -⟩ := sn_cls ci C T N c1
          obtain ⟨hS, hfc, kC, hkC, hkind⟩ := hK.1.1 ci _ c1
          obtain ⟨cf, kf, fi, f, hi, hsl⟩ := hS j c2
          have hst := (u_facts hfc hkC (u_lays hts u1 c2) hi).1
          have hlay := hts _ (u1 _ (u_in_lay c2))
          unfold u_lay at hlay
          have hsame : ∀ x, s.fieldFound? (T j).1 (T j).2.1 (T j).2.2.1 = some x → s.fieldFound? r (T j).2.1 (T j).2.2.1 = some x := fun x h9 => by
            rcases c5 with c5 | c5
            · rw [← c5]; exact h9
            · exact u_same (hts _ c5) x h9
          obtain ⟨hn, hfit⟩ := sn_okf hokf
          have hnf : (T j).2.2.2 = false := by
            rcases fin C T N c1 with hnf | ⟨-, -, -, hisP⟩
            · exact hnf
            · unfold sn_isP at hisP
              rw [hw] at hisP
              cases hisP
          rw [if_neg (by rw [hnf]; decide)] at hlay
          have h6 := u_store hfc hkC hkind hlay hi (u2 j c2) hn hfit
          have hN := hK.2.2.2.2.2.2.2.2.2 _ (List.mem_of_getElem? hw) rfl
          refine va_WputK hx hb (f := f) hown (va_Nw.use rfl hN) (hsame _ hi) hst (by rw [q2]; exact h6) q1 q3 (by rw [hsl]; exact k2_hasslot (q4 j c2)) rfl rfl hdg fun H' e1 e2 e3 => ?_
          rw [hsl] at e1 ⊢
          exact k H' _ (done C T N H' c1 c2 e1 e2 e3) (hloc _)
        · cases hck
      · cases hv
    · cases hv
  · cases hv
end Mem
