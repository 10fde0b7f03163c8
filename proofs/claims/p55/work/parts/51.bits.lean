def a_m (v : Nat) : Int64 := mm_ones.getD v 0
theorem a_m_bit : ∀ v, v < 6 → ∀ j, j < 64 → (a_m v).toBitVec.getLsbD j = j.testBit v := by decide +kernel
theorem a_sc1 : ∀ v, v < 6 → ((((1 : Int32) <<< (Int32.ofNat v &&& 31)).toInt64 &&& 63).toBitVec.smod 64) = BitVec.ofNat 64 (2 ^ v) := by decide +kernel
theorem a_sc2 : ∀ v, v < 6 → (((1 : Int32) <<< (Int32.ofNat v &&& 31)).toInt64.toUInt64 &&& Int64.toUInt64 63) = UInt64.ofNat (2 ^ v) := by decide +kernel
theorem a_v6 : ∀ v, v < 6 → Int32.ofNat v < 6 ∧ (Int32.ofNat v).toNatClampNeg = v ∧ 2 ^ v < 64 := by decide +kernel
theorem a_tb1a : ∀ v, v < 6 → ∀ j, j < 64 → j.testBit v = true → 2 ^ v ≤ j ∧ (j - 2 ^ v).testBit v = false := by decide +kernel
theorem a_tb1b : ∀ v, v < 6 → ∀ j, j < 64 → j.testBit v = true → 2 ^ v + j < 64 → (2 ^ v + j).testBit v = false := by decide +kernel
theorem a_tb1c : ∀ v, v < 6 → ∀ j, j < 64 → j.testBit v = false → 2 ^ v + j < 64 ∧ (2 ^ v + j).testBit v = true := by decide +kernel
theorem a_tb1d : ∀ v, v < 6 → ∀ j, j < 64 → j.testBit v = false → 2 ^ v ≤ j → (j - 2 ^ v).testBit v = true := by decide +kernel
theorem a_tb1 (v : Nat) (hv : v < 6) (j : Nat) (hj : j < 64) : (j.testBit v = true → 2 ^ v ≤ j ∧ (j - 2 ^ v).testBit v = false ∧ (2 ^ v + j < 64 → (2 ^ v + j).testBit v = false)) ∧ (j.testBit v = false → 2 ^ v + j < 64 ∧ (2 ^ v + j).testBit v = true ∧ (2 ^ v ≤ j → (j - 2 ^ v).testBit v = true)) :=
  ⟨fun h => ⟨(a_tb1a v hv j hj h).1, (a_tb1a v hv j hj h).2, a_tb1b v hv j hj h⟩, fun h => ⟨(a_tb1c v hv j hj h).1, (a_tb1c v hv j hj h).2, a_tb1d v hv j hj h⟩⟩
theorem a_pickN (T : a_T) : ∀ w, w < 4 → a_pick T (Int32.ofNat w) = a_wd T w
  | 0, _ => rfl
  | 1, _ => rfl
  | 2, _ => rfl
  | 3, _ => rfl
/-- k with bit v made x -/
def a_sb (k v : Nat) (x : Bool) : Nat := if x then (if k.testBit v then k else 2 ^ v + k) else (if k.testBit v then k - 2 ^ v else k)
theorem a_left_hi (T : a_T) (v : Nat) (hv : v < 6) (w : Nat) (hw : w < 4) (j : Nat) (hj : j < 64) : (a_left a_m T (Int32.ofNat v) 1 (Int32.ofNat w)).toBitVec.getLsbD j = (a_wd T w).toBitVec.getLsbD (a_sb j v true) := by
  obtain ⟨h1, h2, h3⟩ := a_v6 v hv
  unfold a_left
  rw [if_pos h1, if_pos rfl, a_pickN T w hw, h2, a_sc2 v hv, Int64.toBitVec_or, BitVec.getLsbD_or, a_shr _ _ h3, Int64.toBitVec_and, BitVec.getLsbD_and, BitVec.getLsbD_and, a_m_bit v hv j hj]
  unfold a_sb
  rw [if_pos rfl]
  obtain ⟨t1, t2⟩ := a_tb1 v hv j hj
  cases hb : j.testBit v with
  | true =>
    obtain ⟨-, -, g3⟩ := t1 hb
    rw [if_pos rfl, Bool.and_true]
    by_cases hl : 2 ^ v + j < 64
    · rw [a_m_bit v hv _ hl, g3 hl, Bool.and_false, Bool.or_false]
    · rw [BitVec.getLsbD_of_ge (a_m v).toBitVec _ (by omega), Bool.and_false, Bool.or_false]
  | false =>
    obtain ⟨g1, g2, -⟩ := t2 hb
    rw [if_neg (by decide), Bool.and_false, Bool.false_or, a_m_bit v hv _ g1, g2, Bool.and_true]
theorem a_left_lo (T : a_T) (v : Nat) (hv : v < 6) (w : Nat) (hw : w < 4) (j : Nat) (hj : j < 64) : (a_left a_m T (Int32.ofNat v) 0 (Int32.ofNat w)).toBitVec.getLsbD j = (a_wd T w).toBitVec.getLsbD (a_sb j v false) := by
  obtain ⟨h1, h2, h3⟩ := a_v6 v hv
  have hn : ∀ i, i < 64 → (a_m v ^^^ (-1 : Int64)).toBitVec.getLsbD i = !(i.testBit v) := by
    intro i hi
    rw [Int64.toBitVec_xor, BitVec.getLsbD_xor, a_m_bit v hv i hi, show (-1 : Int64).toBitVec = BitVec.allOnes 64 from rfl, BitVec.getLsbD_allOnes, decide_eq_true hi, Bool.xor_true]
  unfold a_left
  rw [if_pos h1, if_neg (by decide), a_pickN T w hw, h2, Int64.toBitVec_or, BitVec.getLsbD_or, Int64.toBitVec_shiftLeft, a_sc1 v hv, BitVec.shiftLeft_eq', BitVec.toNat_ofNat, Nat.mod_eq_of_lt (show 2 ^ v < 2 ^ 64 by omega), BitVec.getLsbD_shiftLeft, Int64.toBitVec_and, BitVec.getLsbD_and, BitVec.getLsbD_and, hn j hj, hn (j - 2 ^ v) (Nat.lt_of_le_of_lt (Nat.sub_le _ _) hj), decide_eq_true hj]
  unfold a_sb
  rw [if_neg (by decide)]
  obtain ⟨t1, t2⟩ := a_tb1 v hv j hj
  cases hb : j.testBit v with
  | true =>
    obtain ⟨g1, g2, -⟩ := t1 hb
    rw [if_pos rfl, g2]
    simp [Nat.not_lt.mpr g1]
  | false =>
    obtain ⟨-, -, g3⟩ := t2 hb
    rw [if_neg (by decide)]
    by_cases hl : 2 ^ v ≤ j
    · rw [g3 hl]
      simp
    · simp [Nat.not_le.mp hl]
/-- a table is what its values are -/
theorem a_T_ext {T U : a_T} (h : ∀ w, w < 4 → ∀ j, j < 64 → (a_wd T w).toBitVec.getLsbD j = (a_wd U w).toBitVec.getLsbD j) : T = U := by
  have key : ∀ w, w < 4 → a_wd T w = a_wd U w := fun w hw => Int64.toBitVec_inj.mp (BitVec.eq_of_getLsbD_eq (fun j hj => h w hw j hj))
  obtain ⟨a, b, c, d⟩ := T
  obtain ⟨a', b', c', d'⟩ := U
  exact a_eq4.mpr ⟨key 0 (by decide), key 1 (by decide), key 2 (by decide), key 3 (by decide)⟩
theorem a_at_ext {T U : a_T} (h : ∀ k, k < 256 → a_at T k = a_at U k) : T = U := by
  refine a_T_ext (fun w hw j hj => ?_)
  have := h (64 * w + j) (by omega)
  unfold a_at at this
  rw [show (64 * w + j) / 64 = w by omega, show (64 * w + j) % 64 = j by omega] at this
  exact this
theorem a_hi67 : ∀ v, v < 8 → 6 ≤ v → ¬ Int32.ofNat v < 6 ∧ ∀ w, w < 4 → (Int32.ofNat w ||| ((1 : Int32) <<< ((Int32.ofNat v - 6) &&& 31)) = Int32.ofNat (a_sb w (v - 6) true)) ∧ (Int32.ofNat w &&& (((1 : Int32) <<< ((Int32.ofNat v - 6) &&& 31)) ^^^ (-1 : Int32)) = Int32.ofNat (a_sb w (v - 6) false)) ∧ a_sb w (v - 6) true < 4 ∧ a_sb w (v - 6) false < 4 := by decide +kernel
theorem a_sb_lo : ∀ v, v < 6 → ∀ k, k < 256 → (a_sb k v true) / 64 = k / 64 ∧ (a_sb k v true) % 64 = a_sb (k % 64) v true ∧ (a_sb k v false) / 64 = k / 64 ∧ (a_sb k v false) % 64 = a_sb (k % 64) v false := by decide +kernel
theorem a_sb_hi : ∀ v, v < 8 → 6 ≤ v → ∀ k, k < 256 → (a_sb k v true) / 64 = a_sb (k / 64) (v - 6) true ∧ (a_sb k v true) % 64 = k % 64 ∧ (a_sb k v false) / 64 = a_sb (k / 64) (v - 6) false ∧ (a_sb k v false) % 64 = k % 64 := by decide +kernel
theorem a_cof_wd (m : Nat → Int64) (T : a_T) (v : Nat) (x : Int32) : ∀ w, w < 4 → a_wd (a_cof m T v x) w = a_left m T (Int32.ofNat v) x (Int32.ofNat w)
  | 0, _ => rfl
  | 1, _ => rfl
  | 2, _ => rfl
  | 3, _ => rfl
/-- what is left, value by value -/
theorem a_cof_at (T : a_T) (v : Nat) (hv : v < 8) (x : Bool) (k : Nat) (hk : k < 256) : a_at (a_cof a_m T v (if x then 1 else 0)) k = a_at T (a_sb k v x) := by
  unfold a_at
  rw [a_cof_wd _ _ _ _ _ (by omega)]
  by_cases h6 : v < 6
  · obtain ⟨e1, e2, e3, e4⟩ := a_sb_lo v h6 k hk
    cases x with
    | true => rw [if_pos rfl, a_left_hi T v h6 _ (by omega) _ (Nat.mod_lt _ (by decide)), e1, e2]
    | false => rw [if_neg (by decide), a_left_lo T v h6 _ (by omega) _ (Nat.mod_lt _ (by decide)), e3, e4]
  · obtain ⟨e1, e2, e3, e4⟩ := a_sb_hi v hv (by omega) k hk
    obtain ⟨g0, g1⟩ := a_hi67 v hv (by omega)
    obtain ⟨g2, g3, g4, g5⟩ := g1 (k / 64) (by omega)
    unfold a_left
    rw [if_neg g0]
    cases x with
    | true => rw [if_pos rfl, if_pos rfl, g2, a_pickN T _ g4, e1, e2]
    | false => rw [if_neg (by decide), g3, a_pickN T _ g5, e3, e4]
