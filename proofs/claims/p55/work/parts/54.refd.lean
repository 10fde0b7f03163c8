def a_mix (T : a_T) : Int64 :=
  let x := T.1 * 31 + T.2.1 * 1000003 + T.2.2.1 * 998244353 + T.2.2.2 * 7919
  let y := x ^^^ (x.toUInt64 >>> (((Int8.ofInt 33).toInt32).toInt64.toUInt64 &&& Int64.toUInt64 63)).toInt64
  y ^^^ (y.toUInt64 >>> (((Int8.ofInt 17).toInt32).toInt64.toUInt64 &&& Int64.toUInt64 63)).toInt64
def a_slN (T : a_T) : Nat := (a_mix T).toBitVec.toNat % 4096
section RM
variable {scr : Nat × (Nat → Int32)} {t : List mg_S}
end RM
