/-- the words of a table repeat behind the first n (n = 1, 2, 4) -/
def a_pw (T : a_T) (n : Nat) : Prop := ∀ w, w < 4 → a_wd T w = a_wd T (w % n)
def a_wds (nv : Nat) : Nat := if nv ≤ 6 then 1 else 2 ^ (nv - 6)
theorem a_wds_i : ∀ nv, nv ≤ 8 → (a_wds nv = 1 ∨ a_wds nv = 2 ∨ a_wds nv = 4) ∧ ((if Int32.ofNat nv ≤ (Int8.ofInt 6).toInt32 then Int32.ofInt 1 else Int32.ofInt 1 <<< ((Int32.ofNat nv - (Int8.ofInt 6).toInt32) &&& 31)) = Int32.ofNat (a_wds nv)) := by decide +kernel
theorem a_cof7 (T : a_T) : a_cof a_m T 7 0 = (T.1, T.2.1, T.1, T.2.1) ∧ a_cof a_m T 7 1 = (T.2.2.1, T.2.2.2, T.2.2.1, T.2.2.2) := ⟨rfl, rfl⟩
theorem a_cof6 (T : a_T) : a_cof a_m T 6 0 = (T.1, T.1, T.2.2.1, T.2.2.1) ∧ a_cof a_m T 6 1 = (T.2.1, T.2.1, T.2.2.2, T.2.2.2) := ⟨rfl, rfl⟩
theorem a_dp7 (T : a_T) : a_dp T 7 = false ↔ T.1 = T.2.2.1 ∧ T.2.1 = T.2.2.2 := by
  unfold a_dp a_dep
  rw [(a_cof7 T).1, (a_cof7 T).2, decide_eq_false_iff_not, Decidable.not_not, a_eq4]
  exact ⟨fun h => ⟨h.1, h.2.1⟩, fun h => ⟨h.1, h.2, h.1, h.2⟩⟩
theorem a_dp6 (T : a_T) : a_dp T 6 = false ↔ T.1 = T.2.1 ∧ T.2.2.1 = T.2.2.2 := by
  unfold a_dp a_dep
  rw [(a_cof6 T).1, (a_cof6 T).2, decide_eq_false_iff_not, Decidable.not_not, a_eq4]
  exact ⟨fun h => ⟨h.1, h.2.2.1⟩, fun h => ⟨h.1, h.1, h.2, h.2⟩⟩
/-- T depends on no variable from nv on -/
def a_per (nv : Nat) (T : a_T) : Prop := ∀ v, v < 8 → nv ≤ v → a_dp T v = false
theorem a_per_pw {nv : Nat} {T : a_T} (h : a_per nv T) (h8 : nv ≤ 8) : a_pw T (a_wds nv) := by
  unfold a_wds
  by_cases h6 : nv ≤ 6
  · rw [if_pos h6]
    obtain ⟨e1, e2⟩ := (a_dp7 T).mp (h 7 (by decide) (by omega))
    obtain ⟨e3, e4⟩ := (a_dp6 T).mp (h 6 (by decide) (by omega))
    intro w hw
    rcases (show w = 0 ∨ w = 1 ∨ w = 2 ∨ w = 3 by omega) with rfl | rfl | rfl | rfl
    · rfl
    · exact e3.symm
    · exact e1.symm
    · exact (e4.symm.trans e1.symm)
  · rw [if_neg h6]
    rcases (show nv = 7 ∨ nv = 8 by omega) with rfl | rfl
    · obtain ⟨e1, e2⟩ := (a_dp7 T).mp (h 7 (by decide) (by omega))
      intro w hw
      rcases (show w = 0 ∨ w = 1 ∨ w = 2 ∨ w = 3 by omega) with rfl | rfl | rfl | rfl
      · rfl
      · rfl
      · exact e1.symm
      · exact e2.symm
    · intro w hw
      rcases (show w = 0 ∨ w = 1 ∨ w = 2 ∨ w = 3 by omega) with rfl | rfl | rfl | rfl <;> rfl
theorem a_pw_eq {T U : a_T} {n : Nat} (hT : a_pw T n) (hU : a_pw U n) (hn : 0 < n) (h : ∀ w, w < n → a_wd T w = a_wd U w) : T = U := by
  have key : ∀ w, w < 4 → a_wd T w = a_wd U w := fun w hw => by rw [hT w hw, hU w hw, h _ (Nat.mod_lt _ hn)]
  obtain ⟨a, b, c, d⟩ := T
  obtain ⟨a', b', c', d'⟩ := U
  exact a_eq4.mpr ⟨key 0 (by decide), key 1 (by decide), key 2 (by decide), key 3 (by decide)⟩
/-- a word that doesn't repeat with a shift by variable v < 6 -/
def a_d1 (x : Int64) (v : Nat) : Int64 := (x ^^^ (x.toUInt64 >>> (((1 : Int32) <<< (Int32.ofNat v &&& 31)).toInt64.toUInt64 &&& Int64.toUInt64 63)).toInt64) &&& (a_m v ^^^ (-1 : Int64))
theorem a_nm (v : Nat) (hv : v < 6) (i : Nat) (hi : i < 64) : (a_m v ^^^ (-1 : Int64)).toBitVec.getLsbD i = !(i.testBit v) := by
  rw [Int64.toBitVec_xor, BitVec.getLsbD_xor, a_m_bit v hv i hi, show (-1 : Int64).toBitVec = BitVec.allOnes 64 from rfl, BitVec.getLsbD_allOnes, decide_eq_true hi, Bool.xor_true]
theorem a_d1_0 (x : Int64) (v : Nat) (hv : v < 6) : a_d1 x v = 0 ↔ a_left a_m (x, x, x, x) (Int32.ofNat v) 0 0 = a_left a_m (x, x, x, x) (Int32.ofNat v) 1 0 := by
  have h3 := (a_v6 v hv).2.2
  have hb : ∀ j, j < 64 → (a_d1 x v).toBitVec.getLsbD j = (Bool.xor (x.toBitVec.getLsbD j) (x.toBitVec.getLsbD (2 ^ v + j)) && !(j.testBit v)) := fun j hj => by
    unfold a_d1
    rw [Int64.toBitVec_and, BitVec.getLsbD_and, a_nm v hv j hj, Int64.toBitVec_xor, BitVec.getLsbD_xor, a_sc2 v hv, a_shr _ _ h3]
  have hl : ∀ j, j < 64 → (a_left a_m (x, x, x, x) (Int32.ofNat v) 0 0).toBitVec.getLsbD j = x.toBitVec.getLsbD (a_sb j v false) := fun j hj => a_left_lo (x, x, x, x) v hv 0 (by decide) j hj
  have hh : ∀ j, j < 64 → (a_left a_m (x, x, x, x) (Int32.ofNat v) 1 0).toBitVec.getLsbD j = x.toBitVec.getLsbD (a_sb j v true) := fun j hj => a_left_hi (x, x, x, x) v hv 0 (by decide) j hj
  constructor
  · intro h
    apply Int64.toBitVec_inj.mp
    apply BitVec.eq_of_getLsbD_eq
    intro j hj
    rw [hl j hj, hh j hj]
    obtain ⟨t1, t2⟩ := a_tb1 v hv j hj
    have key : ∀ i, i < 64 → i.testBit v = false → x.toBitVec.getLsbD i = x.toBitVec.getLsbD (2 ^ v + i) := fun i hi h9 => by
      have := hb i hi
      rw [h, h9] at this
      have h0 : (0 : Int64).toBitVec.getLsbD i = false := by show (0#64).getLsbD i = false; exact BitVec.getLsbD_zero
      rw [h0, Bool.not_false, Bool.and_true] at this
      revert this
      cases x.toBitVec.getLsbD i <;> cases x.toBitVec.getLsbD (2 ^ v + i) <;> simp
    unfold a_sb
    rw [if_neg (by decide), if_pos rfl]
    cases hj9 : j.testBit v with
    | true =>
      obtain ⟨g1, g2, -⟩ := t1 hj9
      rw [if_pos rfl, if_pos rfl, key _ (Nat.lt_of_le_of_lt (Nat.sub_le _ _) hj) g2, Nat.add_sub_cancel' g1]
    | false =>
      rw [if_neg (by decide), if_neg (by decide)]
      exact key j hj hj9
  · intro h
    apply Int64.toBitVec_inj.mp
    apply BitVec.eq_of_getLsbD_eq
    intro j hj
    rw [hb j hj, show (0 : Int64).toBitVec.getLsbD j = false from BitVec.getLsbD_zero]
    cases hj9 : j.testBit v with
    | true => simp
    | false =>
      have := hl j hj
      rw [h, hh j hj] at this
      unfold a_sb at this
      rw [hj9, if_pos rfl, if_neg (by decide), if_neg (by decide), if_neg (by decide)] at this
      rw [this]
      simp
theorem a_left_w (T : a_T) (v : Nat) (hv : v < 6) (x : Int32) (w : Nat) (hw : w < 4) : a_left a_m T (Int32.ofNat v) x (Int32.ofNat w) = a_left a_m (a_wd T w, a_wd T w, a_wd T w, a_wd T w) (Int32.ofNat v) x 0 := by
  unfold a_left
  rw [if_pos (a_v6 v hv).1, if_pos (a_v6 v hv).1, a_pickN T w hw]
  rfl
theorem a_dp_lo {T : a_T} {n v : Nat} (hT : a_pw T n) (hn : 0 < n) (h4 : n ≤ 4) (hv : v < 6) : a_dp T v = true ↔ ∃ w, w < n ∧ a_d1 (a_wd T w) v ≠ 0 := by
  constructor
  · intro h
    refine Decidable.byContradiction fun hno => ?_
    have h0 : ∀ w, w < n → a_d1 (a_wd T w) v = 0 := fun w hw => Decidable.byContradiction fun q => hno ⟨w, hw, q⟩
    refine (a_dp_iff T v).mp h ?_
    have key : ∀ w, w < 4 → a_left a_m T (Int32.ofNat v) 0 (Int32.ofNat w) = a_left a_m T (Int32.ofNat v) 1 (Int32.ofNat w) := fun w hw => by
      rw [a_left_w T v hv 0 w hw, a_left_w T v hv 1 w hw, hT w hw]
      exact (a_d1_0 _ v hv).mp (h0 _ (Nat.mod_lt _ hn))
    exact a_eq4.mpr ⟨key 0 (by decide), key 1 (by decide), key 2 (by decide), key 3 (by decide)⟩
  · rintro ⟨w, hw, h⟩
    refine (a_dp_iff T v).mpr fun e => h ?_
    refine (a_d1_0 _ v hv).mpr ?_
    rw [← a_left_w T v hv 0 w (by omega), ← a_left_w T v hv 1 w (by omega), ← a_cof_wd a_m T v 0 w (by omega), ← a_cof_wd a_m T v 1 w (by omega)]
    exact congrArg (fun q => a_wd q w) e
theorem a_dp_hi {T : a_T} {n v : Nat} (hT : a_pw T n) (hn : n = 1 ∨ n = 2 ∨ n = 4) (hv : 6 ≤ v) (h8 : 2 ^ (v - 6) < n) : a_dp T v = true ↔ ∃ w, w < n ∧ a_wd T w ≠ a_wd T (w ^^^ 2 ^ (v - 6)) := by
  have hv7 : v = 6 ∨ v = 7 := by
    rcases Nat.lt_or_ge v 8 with h | h
    · omega
    · have : 2 ^ 2 ≤ 2 ^ (v - 6) := Nat.pow_le_pow_right (by decide) (by omega)
      omega
  rw [← Bool.not_eq_false, ← Decidable.not_forall_not]
  apply not_congr
  rcases hv7 with rfl | rfl
  · rw [a_dp6]
    have h8 : 1 < n := h8
    constructor
    · rintro ⟨e1, e2⟩ w ⟨hw, hx⟩
      apply hx
      rcases (show w = 0 ∨ w = 1 ∨ w = 2 ∨ w = 3 by omega) with rfl | rfl | rfl | rfl
      · exact e1
      · exact e1.symm
      · exact e2
      · exact e2.symm
    · intro h
      have g0 : a_wd T 0 = a_wd T 1 := Decidable.byContradiction fun q => h 0 ⟨by omega, q⟩
      refine ⟨g0, ?_⟩
      rcases hn with rfl | rfl | rfl
      · omega
      · have g2 : a_wd T 2 = a_wd T 0 := hT 2 (by decide)
        have g3 : a_wd T 3 = a_wd T 1 := hT 3 (by decide)
        exact (g2.trans g0).trans g3.symm
      · exact Decidable.byContradiction fun q => h 2 ⟨by omega, q⟩
  · rw [a_dp7]
    have h8 : 2 < n := h8
    have hn4 : n = 4 := by omega
    subst hn4
    constructor
    · rintro ⟨e1, e2⟩ w ⟨hw, hx⟩
      apply hx
      rcases (show w = 0 ∨ w = 1 ∨ w = 2 ∨ w = 3 by omega) with rfl | rfl | rfl | rfl
      · exact e1
      · exact e2
      · exact e1.symm
      · exact e2.symm
    · intro h
      exact ⟨Decidable.byContradiction fun q => h 0 ⟨by omega, q⟩, Decidable.byContradiction fun q => h 1 ⟨by omega, q⟩⟩
/-- what is left has words that repeat, too -/
theorem a_pw_per {nv : Nat} {T : a_T} (h : a_per nv T) {v : Nat} (hv : v < 8) (x : Bool) : a_per nv (a_cf T v x) := fun u hu hn => a_cf_dp hv hu x (h u hu hn)
theorem a_per_0 (nv : Nat) : a_per nv a_zero := fun v hv _ => a_dp_of (a_at_ext fun k hk => by rw [a_cf_at _ v hv _ k hk, a_cf_at _ v hv _ k hk, a_zero_at _ (a_sb_lt' v hv k hk _), a_zero_at _ (a_sb_lt' v hv k hk _)])
theorem a_per_1 (nv : Nat) : a_per nv a_one := fun v hv _ => a_dp_of (a_at_ext fun k hk => by rw [a_cf_at _ v hv _ k hk, a_cf_at _ v hv _ k hk, a_one_at _ (a_sb_lt' v hv k hk _), a_one_at _ (a_sb_lt' v hv k hk _)])
def a_hm (f : Nat → Int64) : Nat → Int64
  | 0 => 0
  | k + 1 => let z := (a_hm f k ^^^ f k) * (-7046029254386353131 : Int64); z ^^^ (z.toUInt64 >>> (((Int8.ofInt 29).toInt32).toInt64.toUInt64 &&& Int64.toUInt64 63)).toInt64
def a_hC (f : Nat → Int64) (n : Nat) : Nat := (a_hm f n * (-7046029254386353131 : Int64)).toBitVec.toNat / 2 ^ 54
theorem a_hC_lt (f : Nat → Int64) (n : Nat) : a_hC f n < 1024 := by
  unfold a_hC
  have := (a_hm f n * (-7046029254386353131 : Int64)).toBitVec.isLt
  omega
theorem a_hm_c {f g : Nat → Int64} : ∀ n, (∀ w, w < n → f w = g w) → a_hm f n = a_hm g n
  | 0, _ => rfl
  | n + 1, h => by
    unfold a_hm
    rw [a_hm_c n (fun w hw => h w (by omega)), h n (by omega)]
theorem a_hC_c {f g : Nat → Int64} {n : Nat} (h : ∀ w, w < n → f w = g w) : a_hC f n = a_hC g n := by
  unfold a_hC
  rw [a_hm_c n h]
theorem a_hC_i (y : Int64) : (y.toUInt64 >>> (((Int8.ofInt 54).toInt32).toInt64.toUInt64 &&& Int64.toUInt64 63)).toInt64.toInt32 = Int32.ofNat (y.toBitVec.toNat / 2 ^ 54) := by
  have e : (((Int8.ofInt 54).toInt32).toInt64.toUInt64 &&& Int64.toUInt64 63) = UInt64.ofNat 54 := by decide
  rw [e]
  apply Int32.toBitVec_inj.mp
  apply BitVec.eq_of_toNat_eq
  show ((y.toUInt64 >>> UInt64.ofNat 54).toBitVec.signExtend 32).toNat = (BitVec.ofNat 32 (y.toBitVec.toNat / 2 ^ 54)).toNat
  rw [BitVec.signExtend_eq_setWidth_of_le _ (by decide), BitVec.toNat_setWidth, BitVec.toNat_ofNat]
  congr 1
  rw [UInt64.toBitVec_shiftRight]
  show (y.toBitVec >>> (BitVec.ofNat 64 54 % 64)).toNat = _
  rw [show (BitVec.ofNat 64 54 % 64 : BitVec 64) = 54#64 by decide, BitVec.ushiftRight_eq', BitVec.toNat_ushiftRight, Nat.shiftRight_eq_div_pow]
  rfl
