/-- how many of the first n have P -/
def a_nb (P : Nat → Bool) : Nat → Nat
  | 0 => 0
  | n + 1 => a_nb P n + (if P n then 1 else 0)
theorem a_nb_e (P : Nat → Bool) : ∀ n, a_sum (fun k => if P k then (1 : Int32) else 0) n = Int32.ofNat (a_nb P n)
  | 0 => rfl
  | n + 1 => by
    show a_sum (fun k => if P k then (1 : Int32) else 0) n + (if P n then 1 else 0) = Int32.ofNat (a_nb P n + (if P n then 1 else 0))
    rw [a_nb_e P n]
    cases P n with
    | true => exact mg_inc _
    | false => exact Int32.add_zero _
/-- one letter less -/
theorem a_pk_shr {l : List Nat} {c : Nat} (h : a_nm7 (l ++ [c])) : ((a_pk (l ++ [c])).toUInt64 >>> (((Int8.ofInt 8).toInt32).toInt64.toUInt64 &&& Int64.toUInt64 63)).toInt64 = a_pk l := by
  have h1 := a_pn_56 h.1 h.2
  have hc := h.1 c (List.mem_append_right _ List.mem_cons_self)
  rw [a_pn_s] at h1
  apply Int64.toBitVec_inj.mp
  apply BitVec.eq_of_toNat_eq
  show ((a_pk (l ++ [c])).toUInt64 >>> (8 : UInt64)).toBitVec.toNat = (a_pk l).toBitVec.toNat
  rw [UInt64.toBitVec_shiftRight]
  show ((a_pk (l ++ [c])).toBitVec >>> ((8 : UInt64).toBitVec % 64)).toNat = _
  rw [show (8 : UInt64).toBitVec % 64 = 8#64 from by decide, BitVec.ushiftRight_eq', BitVec.toNat_ushiftRight]
  have e : ∀ m : List Nat, (a_pk m).toBitVec.toNat = a_pn m % 2 ^ 64 := fun m => by
    show (Int64.ofNat (a_pn m)).toBitVec.toNat = _
    rw [Int64.toBitVec_ofNat']
    exact BitVec.toNat_ofNat _ _
  rw [e, e, a_pn_s, Nat.mod_eq_of_lt (by omega), Nat.mod_eq_of_lt (by omega), show (8#64).toNat = 8 from rfl, Nat.shiftRight_eq_div_pow]
  omega
