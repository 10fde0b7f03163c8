theorem mg_inc (k : Nat) : Int32.ofNat k + Int32.ofInt 1 = Int32.ofNat (k + 1) := by rw [Int32.ofNat_add]; rfl
theorem mg_toN {a : Nat} (h : a < 2147483648) : (Int32.ofNat a).toInt = a := Int32.toInt_ofNat_of_lt h
theorem mg_ltN {a b : Nat} (ha : a < 2147483648) (hb : b < 2147483648) : Int32.ofNat a < Int32.ofNat b ↔ a < b := by
  rw [Int32.lt_iff_toInt_lt, mg_toN ha, mg_toN hb]
  omega
theorem mg_leN {a b : Nat} (ha : a < 2147483648) (hb : b < 2147483648) : Int32.ofNat a ≤ Int32.ofNat b ↔ a ≤ b := by
  rw [Int32.le_iff_toInt_le, mg_toN ha, mg_toN hb]
  omega
theorem mg_eqN {a b : Nat} (ha : a < 2147483648) (hb : b < 2147483648) : Int32.ofNat a = Int32.ofNat b ↔ a = b := by
  refine ⟨fun h => ?_, fun h => by rw [h]⟩
  have h1 := congrArg Int32.toInt h
  rw [mg_toN ha, mg_toN hb] at h1
  omega
theorem mg_subN {a b : Nat} (h : b ≤ a) : Int32.ofNat a - Int32.ofNat b = Int32.ofNat (a - b) := by
  have e : Int32.ofNat a = Int32.ofNat (a - b) + Int32.ofNat b := by rw [← Int32.ofNat_add, Nat.sub_add_cancel h]
  rw [e, Int32.add_sub_cancel]
theorem mg_div64 : ∀ k, k < 256 → Int32.ofNat k >>> ((Int8.ofInt 6).toInt32 &&& 31) = Int32.ofNat (k / 64) := by decide +kernel
theorem mg_mod64 : ∀ k, k < 256 → (Int32.ofNat k &&& (Int8.ofInt 63).toInt32).toInt64.toUInt64 &&& Int64.toUInt64 63 = UInt64.ofNat (k % 64) := by decide +kernel
theorem a_shr (y : Int64) (n : Nat) (hn : n < 64) (j : Nat) : ((y.toUInt64 >>> UInt64.ofNat n).toInt64).toBitVec.getLsbD j = y.toBitVec.getLsbD (n + j) := by
  show (y.toUInt64 >>> UInt64.ofNat n).toBitVec.getLsbD j = _
  rw [UInt64.toBitVec_shiftRight]
  have e : (UInt64.ofNat n).toBitVec % 64 = BitVec.ofNat 64 n := by
    apply BitVec.eq_of_toNat_eq
    simp
    omega
  rw [e]
  show (y.toBitVec >>> BitVec.ofNat 64 n).getLsbD j = _
  rw [BitVec.ushiftRight_eq', BitVec.toNat_ofNat, Nat.mod_eq_of_lt (by omega), BitVec.getLsbD_ushiftRight]
/-- n in an int that says how many -/
def a_sum (f : Nat → Int32) : Nat → Int32
  | 0 => 0
  | k + 1 => a_sum f k + f k
