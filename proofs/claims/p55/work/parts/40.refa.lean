abbrev mg_sF (G : mg_G) (a k : Nat) (v : Value) : mg_G := (G.1, G.2.1, G.2.2.1, G.2.2.2.1, mg_u2 G.2.2.2.2 a k v)
abbrev mg_sI (G : mg_G) (a k : Nat) (x : Int32) : mg_G := (mg_u2 G.1 a k x, G.2)
abbrev mg_sJ (G : mg_G) (a k : Nat) (x : Int64) : mg_G := (G.1, mg_u2 G.2.1 a k x, G.2.2)
/-- a table: its four words -/
abbrev a_T : Type := Int64 × Int64 × Int64 × Int64
def a_pick (T : a_T) (w : Int32) : Int64 := if w = 0 then T.1 else if w = 1 then T.2.1 else if w = 2 then T.2.2.1 else T.2.2.2
section RM
variable {scr : Nat × (Nat → Int32)} {t : List mg_S}
def a_left (m : Nat → Int64) (T : a_T) (v x w : Int32) : Int64 :=
  if v < 6 then (if x = 1 then (a_pick T w &&& m v.toNatClampNeg) ||| ((a_pick T w &&& m v.toNatClampNeg).toUInt64 >>> (((1 : Int32) <<< (v &&& 31)).toInt64.toUInt64 &&& Int64.toUInt64 63)).toInt64
    else (a_pick T w &&& (m v.toNatClampNeg ^^^ (-1 : Int64))) ||| ((a_pick T w &&& (m v.toNatClampNeg ^^^ (-1 : Int64))) <<< (((1 : Int32) <<< (v &&& 31)).toInt64 &&& 63)))
  else a_pick T (if x = 1 then w ||| ((1 : Int32) <<< ((v - 6) &&& 31)) else w &&& (((1 : Int32) <<< ((v - 6) &&& 31)) ^^^ (-1 : Int32)))
def a_tb (G : mg_G) (f : Nat) : a_T := (G.2.1 150 (4 * f), G.2.1 150 (4 * f + 1), G.2.1 150 (4 * f + 2), G.2.1 150 (4 * f + 3))
end RM
