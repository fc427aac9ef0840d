/-! The pure state: numbers S.1 kind i j, values S.2 kind i j.
numbers: 0 outputs, 1 records, 2 barriers, 3 readers; 4 o open rows, 5 o parts, 6 o lines; 7 r a reader's output, 8 r its place; of a part: 9 o p first record, 10 o p rows, 11 o p what it is.
values: 0 0 mark, 0 1 ended, 0 2 down, 0 3 acts to failure (0: none), 0 4 acts, 0 5 made; 1 o 0 sort, 1 o 1 tries, 1 o 2 to fail; 2 o k open keys, 3 o k open values; 4 i c records; 5 i barriers; 6..9 o i lines' key, value, part, place; 10..12 o k tables' part, place, value; 13 o p a part's mark. -/
abbrev sp : Type := (Nat → Nat → Nat → Nat) × (Nat → Nat → Nat → Int32)
def u3 {α : Type} (f : Nat → Nat → Nat → α) (k i j : Nat) (v : α) : Nat → Nat → Nat → α := fun a b c => if a = k ∧ b = i ∧ c = j then v else f a b c
def sN (S : sp) (k i j v : Nat) : sp := (u3 S.1 k i j v, S.2)
def sV (S : sp) (k i j : Nat) (v : Int32) : sp := (S.1, u3 S.2 k i j v)
/-- open parts are empty -/
def sE (S : sp) : sp := (fun a b c => if a = 4 then 0 else S.1 a b c, S.2)
theorem sN_1 (S : sp) (k i j v a b c : Nat) : (sN S k i j v).1 a b c = if a = k ∧ b = i ∧ c = j then v else S.1 a b c := rfl
theorem sN_2 (S : sp) (k i j v a b c : Nat) : (sN S k i j v).2 a b c = S.2 a b c := rfl
theorem sV_1 (S : sp) (k i j : Nat) (v : Int32) (a b c : Nat) : (sV S k i j v).1 a b c = S.1 a b c := rfl
theorem sV_2 (S : sp) (k i j : Nat) (v : Int32) (a b c : Nat) : (sV S k i j v).2 a b c = if a = k ∧ b = i ∧ c = j then v else S.2 a b c := rfl
theorem sE_1 (S : sp) (a b c : Nat) : (sE S).1 a b c = if a = 4 then 0 else S.1 a b c := rfl
theorem sE_2 (S : sp) (a b c : Nat) : (sE S).2 a b c = S.2 a b c := rfl
/-- an act -/
def sp_act (S : sp) : Bool × sp :=
  if S.2 0 3 0 = 1 then (false, sE (sV (sV S 0 3 0 0) 0 2 0 1))
  else (true, sV (sV S 0 3 0 (if 1 < S.2 0 3 0 then S.2 0 3 0 - 1 else S.2 0 3 0)) 0 4 0 (S.2 0 4 0 + 1))
/-- a record behind the others -/
def sp_app (S : sp) (k o p n v : Int32) : sp :=
  sN (sV (sV (sV (sV (sV S 4 (S.1 1 0 0) 0 k) 4 (S.1 1 0 0) 1 o) 4 (S.1 1 0 0) 2 p) 4 (S.1 1 0 0) 3 n) 4 (S.1 1 0 0) 4 v) 1 0 0 (S.1 1 0 0 + 1)
def sp_rec (S : sp) (k o p n v : Int32) : Bool × sp := if (sp_act S).1 = true then (true, sp_app (sp_act S).2 k o p n v) else (false, (sp_act S).2)
