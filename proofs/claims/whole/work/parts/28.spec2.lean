/-! What the calls do to the pure state. -/
def sp_gr (S : sp) : Int32 := if 0 < S.1 2 0 0 then (if S.2 5 (S.1 2 0 0 - 1) 0 < S.2 0 0 0 then S.2 0 0 0 else S.2 5 (S.1 2 0 0 - 1) 0) else S.2 0 0 0
def sp_pts (S : sp) : Nat → Nat
  | 0 => 0
  | o + 1 => sp_pts S o + (S.1 5 o 0 + (if 0 < S.1 4 o 0 then 1 else 0))
def sp_bars (S : sp) (m : Int32) : Int32 := if m < 0 ∨ 1000000 < m ∨ (sp_gr S ≠ -6 ∧ m ≤ sp_gr S) then -2 else if S.2 0 2 0 ≠ 0 then -5 else if S.2 0 1 0 ≠ 0 then -3 else if S.2 0 5 0 = 200 ∨ 100 < sp_pts S (S.1 0 0 0) then -4 else 0
/-- a row is on the disk: its part has its number, and one row more -/
def sp_pu (T : sp) (o p k : Nat) : sp := sN (sN (if k = 0 then sN (sN (sN (sV T 13 o p (-6)) 9 o p (T.1 1 0 0 - 1)) 11 o p 0) 15 o p 0 else T) 10 o p (k + 1)) 5 o 0 (p + 1)
def sp_row (S : sp) (o p k : Nat) : Bool × sp := if (sp_rec S 0 (nI o) (nI p) (S.2 2 o k) (S.2 3 o k)).1 = true then (true, sp_pu (sp_rec S 0 (nI o) (nI p) (S.2 2 o k) (S.2 3 o k)).2 o p k) else (false, (sp_rec S 0 (nI o) (nI p) (S.2 2 o k) (S.2 3 o k)).2)
def sp_rows (o p : Nat) : Nat → Nat → sp → Bool × sp
  | 0, _, S => (true, S)
  | c + 1, k, S => if (sp_row S o p k).1 = true then sp_rows o p c (k + 1) (sp_row S o p k).2 else (false, (sp_row S o p k).2)
def sp_close (S : sp) (o p : Nat) (m : Int32) : Bool × sp := if (sp_rec S 1 (nI o) (nI p) m (-6)).1 = true then (true, sN (sN (sV (sp_rec S 1 (nI o) (nI p) m (-6)).2 13 o p m) 11 o p 1) 4 o 0 0) else (false, (sp_rec S 1 (nI o) (nI p) m (-6)).2)
def sp_barL (m : Int32) : Nat → Nat → Nat → sp → Option Nat × sp
  | 0, _, w, S => (some w, S)
  | c + 1, o, w, S => if S.1 4 o 0 = 0 then sp_barL m c (o + 1) w S else
    if (sp_rows o (S.1 5 o 0) (S.1 4 o 0) 0 S).1 = true then
      (if (sp_close (sp_rows o (S.1 5 o 0) (S.1 4 o 0) 0 S).2 o (S.1 5 o 0) m).1 = true then sp_barL m c (o + 1) (w + S.1 4 o 0) (sp_close (sp_rows o (S.1 5 o 0) (S.1 4 o 0) 0 S).2 o (S.1 5 o 0) m).2
       else (none, (sp_close (sp_rows o (S.1 5 o 0) (S.1 4 o 0) 0 S).2 o (S.1 5 o 0) m).2))
    else (none, (sp_rows o (S.1 5 o 0) (S.1 4 o 0) 0 S).2)
def sp_bar (S : sp) (m : Int32) : Int32 × sp := match sp_barL m (S.1 0 0 0) 0 0 (sV S 0 5 0 (S.2 0 5 0 + 1)) with
  | (none, T) => (-5, T)
  | (some w, T) => (nI w, sN (sV T 5 (T.1 2 0 0) 0 m) 2 0 0 (T.1 2 0 0 + 1))
/-- a line of a part and a place is there, among the first i -/
def q_has (S : sp) (o p pl : Nat) : Nat → Bool
  | 0 => false
  | i + 1 => q_has S o p pl i || (decide (S.2 8 o i = nI p) && decide (S.2 9 o i = nI pl))
def sp_line (S : sp) (o p pl r : Nat) : Nat × sp := if q_has S o p pl (S.1 6 o 0) = true then (0, S) else (1, sN (sV (sV (sV (sV S 6 o (S.1 6 o 0) (S.2 4 r 3)) 7 o (S.1 6 o 0) (S.2 4 r 4)) 8 o (S.1 6 o 0) (nI p)) 9 o (S.1 6 o 0) (nI pl)) 6 o 0 (S.1 6 o 0 + 1))
def sp_last (S : sp) (o p pl r : Nat) : Nat × sp := if S.2 10 o (S.2 4 r 3).toNatClampNeg ≠ -6 ∧ (nI p < S.2 10 o (S.2 4 r 3).toNatClampNeg ∨ (S.2 10 o (S.2 4 r 3).toNatClampNeg = nI p ∧ nI pl ≤ S.2 11 o (S.2 4 r 3).toNatClampNeg)) then (0, S)
  else (1, sV (sV (sV S 10 o (S.2 4 r 3).toNatClampNeg (nI p)) 11 o (S.2 4 r 3).toNatClampNeg (nI pl)) 12 o (S.2 4 r 3).toNatClampNeg (S.2 4 r 4))
/-- beside it, for proofs alone: 14 o p where a part's lines begin, 15 o p how many of its rows came -/
def sp_gh (S T : sp) (o p pl : Nat) : sp := sN (if S.1 15 o p = 0 then sN T 14 o p (S.1 6 o 0) else T) 15 o p (if S.1 15 o p ≤ pl then pl + 1 else S.1 15 o p)
def sp_come (S : sp) (o p pl r : Nat) : Nat × sp := if S.2 1 o 0 = 0 then ((sp_line S o p pl r).1, sp_gh S (sp_line S o p pl r).2 o p pl) else ((sp_last S o p pl r).1, sp_gh S (sp_last S o p pl r).2 o p pl)
/-- rows of a part come out there, from a place on -/
def sp_showR (o p : Nat) : Nat → Nat → Nat → sp → Option Nat × sp
  | 0, _, w, S => (some w, S)
  | c + 1, pl, w, S => if (sp_act S).1 = true then sp_showR o p c (pl + 1) (w + (sp_come (sp_act S).2 o p pl (S.1 9 o p + pl)).1) (sp_come (sp_act S).2 o p pl (S.1 9 o p + pl)).2 else (none, (sp_act S).2)
def sp_showP (S : sp) (o p : Nat) : Option Nat × sp := match sp_showR o p (S.1 10 o p) 0 0 S with
  | (none, T) => (none, T)
  | (some w, T) => if (sp_rec T 3 (nI o) (nI p) (-6) (-6)).1 = true then (some w, sN (sp_rec T 3 (nI o) (nI p) (-6) (-6)).2 11 o p 2) else (none, (sp_rec T 3 (nI o) (nI p) (-6) (-6)).2)
def sp_try (S : sp) (o : Nat) : sp := sV S 1 o 1 (S.2 1 o 1 + 1)
def sp_showO (o : Nat) : Nat → Nat → Nat → sp → Option Nat × sp
  | 0, _, w, S => (some w, S)
  | c + 1, p, w, S => if S.1 11 o p = 1 ∧ S.2 13 o p ≤ S.2 0 0 0 then
      (if 0 < S.2 1 o 2 then (some w, sV (sp_try S o) 1 o 2 (S.2 1 o 2 - 1)) else match sp_showP (sp_try S o) o p with
        | (none, T) => (none, T)
        | (some x, T) => sp_showO o c (p + 1) (w + x) T)
    else sp_showO o c (p + 1) w S
def sp_showA : Nat → Nat → Nat → sp → Option Nat × sp
  | 0, _, w, S => (some w, S)
  | c + 1, o, w, S => match sp_showO o (S.1 5 o 0) 0 w S with
    | (none, T) => (none, T)
    | (some x, T) => sp_showA c (o + 1) x T
def sp_ans (q : Option Nat × sp) : Int32 × sp := match q with
  | (none, T) => (-5, T)
  | (some w, T) => (nI w, T)
def sp_shown (S : sp) : Int32 × sp := sp_ans (sp_showA (S.1 0 0 0) 0 0 S)
/-- parts of an output are given up -/
def sp_goes (o : Nat) (m : Int32) : Nat → Nat → Nat → sp → Option Nat × sp
  | 0, _, w, S => (some w, S)
  | c + 1, p, w, S => if S.1 11 o p = 1 ∧ m ≤ S.2 13 o p then
      (if (sp_rec S 4 (nI o) (nI p) (-6) (-6)).1 = true then sp_goes o m c (p + 1) (w + S.1 10 o p) (sN (sp_rec S 4 (nI o) (nI p) (-6) (-6)).2 11 o p 3) else (none, (sp_rec S 4 (nI o) (nI p) (-6) (-6)).2))
    else sp_goes o m c (p + 1) w S
def sp_giveL (m : Int32) : Nat → Nat → Nat → sp → Option Nat × sp
  | 0, _, w, S => (some w, S)
  | c + 1, o, w, S => match sp_goes o m (S.1 5 o 0) 0 0 S with
    | (none, T) => (none, T)
    | (some x, T) => sp_giveL m c (o + 1) (w + (x + T.1 4 o 0)) (sN T 4 o 0 0)
/-- barriers from a mark on are none any more -/
def sp_drop (m : Int32) : Nat → sp → sp
  | 0, S => S
  | c + 1, S => if m ≤ S.2 5 c 0 then sp_drop m c (sN S 2 0 0 c) else S
def sp_give (S : sp) (m : Int32) : Int32 × sp := match sp_giveL m (S.1 0 0 0) 0 0 S with
  | (none, T) => (-5, T)
  | (some w, T) => (nI w, sp_drop m (T.1 2 0 0) T)
def sp_openG : Nat → Nat → Int32 → sp → sp
  | 0, _, _, S => S
  | c + 1, o, m, S => sp_openG c (o + 1) m (sp_goes o m (S.1 5 o 0) 0 0 S).2
def sp_up (S : sp) : sp := sE (sV (sV S 0 3 0 0) 0 2 0 0)
def sp_open (S : sp) : Int32 × sp := (nI ((sp_shown (sp_openG (S.1 0 0 0) 0 (S.2 0 0 0 + 1) (sp_drop (S.2 0 0 0 + 1) (S.1 2 0 0) (sp_up S)))).2.1 1 0 0 - S.1 1 0 0), (sp_shown (sp_openG (S.1 0 0 0) 0 (S.2 0 0 0 + 1) (sp_drop (S.2 0 0 0 + 1) (S.1 2 0 0) (sp_up S)))).2)
