/-! TABLES, BIT BY BIT (pure) -/
def a_m (v : Nat) : Int64 := mm_ones.getD v 0
theorem a_m_bit : ∀ v, v < 6 → ∀ j, j < 64 → (a_m v).toBitVec.getLsbD j = j.testBit v := by decide +kernel
theorem a_shl (y : Int64) (n : Nat) (hn : n < 64) (j : Nat) (hj : j < 64) : (y <<< (Int64.ofNat n &&& 63)).toBitVec.getLsbD j = (decide (n ≤ j) && y.toBitVec.getLsbD (j - n)) := by
  sorry
