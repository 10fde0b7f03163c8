def a_wd (T : a_T) (w : Nat) : Int64 := match w with
  | 0 => T.1
  | 1 => T.2.1
  | 2 => T.2.2.1
  | _ => T.2.2.2
/-- a table's value for an assignment -/
def a_at (T : a_T) (k : Nat) : Bool := (a_wd T (k / 64)).toBitVec.getLsbD (k % 64)
def a_atI (T : a_T) (k : Nat) : Int32 := if a_at T k then 1 else 0
section RM
variable {scr : Nat × (Nat → Int32)} {t : List mg_S}
end RM
