/-! TRUTH TABLES of 3 to 5 variables, in one number: the low bits of the table's first word -/
def tt_n (n : Nat) : Prop := n = 3 ∨ n = 4 ∨ n = 5
def tt_M (n : Nat) : Int64 := if n = 3 then 255 else if n = 4 then 65535 else 4294967295
def tt (n : Nat) (T : a_T) : Int64 := T.1 &&& tt_M n
theorem tt_pw {n : Nat} (h : tt_n n) : 2 ^ n ≤ 32 ∧ 8 ≤ 2 ^ n := by rcases h with rfl | rfl | rfl <;> decide
theorem tt_Mb {n : Nat} (h : tt_n n) : ∀ k, k < 64 → (tt_M n).toBitVec.getLsbD k = decide (k < 2 ^ n) := by
  rcases h with rfl | rfl | rfl <;> decide +kernel
theorem tt_ext {x y : Int64} (h : ∀ k, k < 64 → x.toBitVec.getLsbD k = y.toBitVec.getLsbD k) : x = y := Int64.toBitVec_inj.mp (BitVec.eq_of_getLsbD_eq h)
theorem tt_at (T : a_T) {k : Nat} (hk : k < 64) : a_at T k = T.1.toBitVec.getLsbD k := by
  unfold a_at
  rw [Nat.div_eq_of_lt hk, Nat.mod_eq_of_lt hk]
  rfl
theorem tt_b {n : Nat} (h : tt_n n) (T : a_T) {k : Nat} (hk : k < 64) : (tt n T).toBitVec.getLsbD k = (decide (k < 2 ^ n) && a_at T k) := by
  unfold tt
  rw [Int64.toBitVec_and, BitVec.getLsbD_and, tt_Mb h k hk, tt_at T hk, Bool.and_comm]
theorem tt_of {n : Nat} (h : tt_n n) {T : a_T} {y : Int64} (hy : ∀ k, k < 64 → y.toBitVec.getLsbD k = (decide (k < 2 ^ n) && a_at T k)) : y = tt n T :=
  tt_ext fun k hk => (hy k hk).trans (tt_b h T hk).symm
theorem tt_MM (n : Nat) (T : a_T) : tt n T &&& tt_M n = tt n T := by
  refine tt_ext fun k hk => ?_
  unfold tt
  simp only [Int64.toBitVec_and, BitVec.getLsbD_and]
  cases T.1.toBitVec.getLsbD k <;> cases (tt_M n).toBitVec.getLsbD k <;> rfl
/-- a table of n variables is told by its first 2 ^ n bits -/
theorem tt_3 : ∀ k, k < 256 → a_sb (a_sb (a_sb (a_sb (a_sb k 3 false) 4 false) 5 false) 6 false) 7 false = k % 2 ^ 3 := by decide +kernel
theorem tt_4 : ∀ k, k < 256 → a_sb (a_sb (a_sb (a_sb k 4 false) 5 false) 6 false) 7 false = k % 2 ^ 4 := by decide +kernel
theorem tt_5 : ∀ k, k < 256 → a_sb (a_sb (a_sb k 5 false) 6 false) 7 false = k % 2 ^ 5 := by decide +kernel
theorem tt_md {n : Nat} (h : tt_n n) {T : a_T} (hT : a_per n T) {k : Nat} (hk : k < 256) : a_at T k = a_at T (k % 2 ^ n) := by
  have step : ∀ v, v < 8 → n ≤ v → ∀ k, k < 256 → a_at T k = a_at T (a_sb k v false) := fun v hv hn k hk => by
    rw [← a_cf_at T v hv false k hk, a_dp_no hv (hT v hv hn)]
  rcases h with rfl | rfl | rfl
  · have l3 := a_sb_lt' 3 (by decide) k hk false
    have l4 := a_sb_lt' 4 (by decide) _ l3 false
    have l5 := a_sb_lt' 5 (by decide) _ l4 false
    have l6 := a_sb_lt' 6 (by decide) _ l5 false
    rw [← tt_3 k hk, step 3 (by decide) (by decide) k hk, step 4 (by decide) (by decide) _ l3, step 5 (by decide) (by decide) _ l4, step 6 (by decide) (by decide) _ l5, step 7 (by decide) (by decide) _ l6]
  · have l4 := a_sb_lt' 4 (by decide) k hk false
    have l5 := a_sb_lt' 5 (by decide) _ l4 false
    have l6 := a_sb_lt' 6 (by decide) _ l5 false
    rw [← tt_4 k hk, step 4 (by decide) (by decide) k hk, step 5 (by decide) (by decide) _ l4, step 6 (by decide) (by decide) _ l5, step 7 (by decide) (by decide) _ l6]
  · have l5 := a_sb_lt' 5 (by decide) k hk false
    have l6 := a_sb_lt' 6 (by decide) _ l5 false
    rw [← tt_5 k hk, step 5 (by decide) (by decide) k hk, step 6 (by decide) (by decide) _ l5, step 7 (by decide) (by decide) _ l6]
theorem tt_inj {n : Nat} (h : tt_n n) {T U : a_T} (hT : a_per n T) (hU : a_per n U) : tt n T = tt n U ↔ T = U := by
  refine ⟨fun e => a_at_ext fun k hk => ?_, fun e => by rw [e]⟩
  have hp := tt_pw h
  have hm : k % 2 ^ n < 2 ^ n := Nat.mod_lt _ (by omega)
  have e1 := tt_b h T (k := k % 2 ^ n) (by omega)
  have e2 := tt_b h U (k := k % 2 ^ n) (by omega)
  rw [e, e2, decide_eq_true hm, Bool.true_and, Bool.true_and] at e1
  rw [tt_md h hT hk, tt_md h hU hk, e1]
/-! the law's operations on such numbers -/
theorem tt_c0 (x y : Int64) : a_comb (Int32.ofNat 0) x y = x &&& y := by unfold a_comb; rw [if_pos (by decide)]
theorem tt_c1 (x y : Int64) : a_comb (Int32.ofNat 1) x y = x ||| y := by unfold a_comb; rw [if_neg (by decide), if_pos (by decide)]
theorem tt_c2 (x y : Int64) : a_comb (Int32.ofNat 2) x y = x ^^^ y := by unfold a_comb; rw [if_neg (by decide), if_neg (by decide), if_pos (by decide)]
theorem tt_c3 (x y : Int64) : a_comb (Int32.ofNat 3) x y = (x ^^^ (-1 : Int64)) ||| y := by unfold a_comb; rw [if_neg (by decide), if_neg (by decide), if_neg (by decide), if_pos (by decide)]
theorem tt_c4 (x y : Int64) : a_comb (Int32.ofNat 4) x y = (x ^^^ y) ^^^ (-1 : Int64) := by unfold a_comb; rw [if_neg (by decide), if_neg (by decide), if_neg (by decide), if_neg (by decide), if_pos (by decide)]
theorem tt_c5 (x y : Int64) : a_comb (Int32.ofNat 5) x y = x &&& (y ^^^ (-1 : Int64)) := by unfold a_comb; rw [if_neg (by decide), if_neg (by decide), if_neg (by decide), if_neg (by decide), if_neg (by decide)]
theorem tt_op {n j : Nat} (hj : j < 6) (T U : a_T) : a_comb (Int32.ofNat j) (tt n T) (tt n U) &&& tt_M n = tt n (a_op (Int32.ofNat j) T U) := by
  have e : tt n (a_op (Int32.ofNat j) T U) = a_comb (Int32.ofNat j) T.1 U.1 &&& tt_M n := rfl
  rw [e]
  refine tt_ext fun k hk => ?_
  unfold tt
  rcases (show j = 0 ∨ j = 1 ∨ j = 2 ∨ j = 3 ∨ j = 4 ∨ j = 5 by omega) with rfl | rfl | rfl | rfl | rfl | rfl
  · simp only [tt_c0, Int64.toBitVec_and, BitVec.getLsbD_and]
    cases T.1.toBitVec.getLsbD k <;> cases U.1.toBitVec.getLsbD k <;> cases (tt_M n).toBitVec.getLsbD k <;> rfl
  · simp only [tt_c1, Int64.toBitVec_and, BitVec.getLsbD_and, Int64.toBitVec_or, BitVec.getLsbD_or]
    cases T.1.toBitVec.getLsbD k <;> cases U.1.toBitVec.getLsbD k <;> cases (tt_M n).toBitVec.getLsbD k <;> rfl
  · simp only [tt_c2, Int64.toBitVec_and, BitVec.getLsbD_and, Int64.toBitVec_xor, BitVec.getLsbD_xor]
    cases T.1.toBitVec.getLsbD k <;> cases U.1.toBitVec.getLsbD k <;> cases (tt_M n).toBitVec.getLsbD k <;> rfl
  · simp only [tt_c3, Int64.toBitVec_and, BitVec.getLsbD_and, Int64.toBitVec_or, BitVec.getLsbD_or, Int64.toBitVec_xor, BitVec.getLsbD_xor, a_neg1 k hk]
    cases T.1.toBitVec.getLsbD k <;> cases U.1.toBitVec.getLsbD k <;> cases (tt_M n).toBitVec.getLsbD k <;> rfl
  · simp only [tt_c4, Int64.toBitVec_and, BitVec.getLsbD_and, Int64.toBitVec_xor, BitVec.getLsbD_xor, a_neg1 k hk]
    cases T.1.toBitVec.getLsbD k <;> cases U.1.toBitVec.getLsbD k <;> cases (tt_M n).toBitVec.getLsbD k <;> rfl
  · simp only [tt_c5, Int64.toBitVec_and, BitVec.getLsbD_and, Int64.toBitVec_xor, BitVec.getLsbD_xor, a_neg1 k hk]
    cases T.1.toBitVec.getLsbD k <;> cases U.1.toBitVec.getLsbD k <;> cases (tt_M n).toBitVec.getLsbD k <;> rfl
theorem tt_sel (n : Nat) (C X Y : a_T) : ((tt n C &&& tt n X) ||| ((tt n C ^^^ (-1 : Int64)) &&& tt n Y)) &&& tt_M n = tt n (a_sel C X Y) := by
  have e : tt n (a_sel C X Y) = ((C.1 &&& X.1) ||| ((C.1 ^^^ (-1 : Int64)) &&& Y.1)) &&& tt_M n := rfl
  rw [e]
  refine tt_ext fun k hk => ?_
  unfold tt
  simp only [Int64.toBitVec_and, BitVec.getLsbD_and, Int64.toBitVec_or, BitVec.getLsbD_or, Int64.toBitVec_xor, BitVec.getLsbD_xor, a_neg1 k hk]
  cases C.1.toBitVec.getLsbD k <;> cases X.1.toBitVec.getLsbD k <;> cases Y.1.toBitVec.getLsbD k <;> cases (tt_M n).toBitVec.getLsbD k <;> rfl
theorem tt_not (n : Nat) (T : a_T) : (tt n T ^^^ (-1 : Int64)) &&& tt_M n = tt n (a_not T) := by
  have e : tt n (a_not T) = (T.1 ^^^ (-1 : Int64)) &&& tt_M n := rfl
  rw [e]
  refine tt_ext fun k hk => ?_
  unfold tt
  simp only [Int64.toBitVec_and, BitVec.getLsbD_and, Int64.toBitVec_xor, BitVec.getLsbD_xor, a_neg1 k hk]
  cases T.1.toBitVec.getLsbD k <;> cases (tt_M n).toBitVec.getLsbD k <;> rfl
theorem tt_qu (n v : Nat) (all : Bool) (T : a_T) : (if all then tt n (a_cf T v false) &&& tt n (a_cf T v true) else tt n (a_cf T v false) ||| tt n (a_cf T v true)) &&& tt_M n = tt n (a_qu all v T) := by
  cases all
  · have h := tt_op (n := n) (j := 1) (by decide) (a_cf T v false) (a_cf T v true)
    rw [tt_c1] at h
    exact h
  · have h := tt_op (n := n) (j := 0) (by decide) (a_cf T v false) (a_cf T v true)
    rw [tt_c0] at h
    exact h
/-! bits laid one behind another: y holds those of f below k -/
def tz_B (y : Int64) (f : Nat → Bool) (k : Nat) : Prop := ∀ j, j < 64 → y.toBitVec.getLsbD j = (decide (j < k) && f j)
def tz_1 (b : Bool) : Int64 := if b then 1 else 0
theorem tz_0 (f : Nat → Bool) : tz_B 0 f 0 := fun j _ => by
  rw [decide_eq_false (Nat.not_lt_zero j), Bool.false_and]
  exact BitVec.getLsbD_zero
theorem tz_sh : ∀ k, k < 32 → ∀ j, j < 64 → ((1 : Int64) <<< ((Int32.ofNat k).toInt64 &&& 63)).toBitVec.getLsbD j = decide (j = k) := by decide +kernel
theorem tz_sh0 : ∀ k, k < 32 → (0 : Int64) <<< ((Int32.ofNat k).toInt64 &&& 63) = 0 := by decide +kernel
theorem tz_s {y : Int64} {f : Nat → Bool} {k : Nat} (h : tz_B y f k) (hk : k < 32) : tz_B (y ||| (tz_1 (f k) <<< ((Int32.ofNat k).toInt64 &&& 63))) f (k + 1) := fun j hj => by
  have e : (tz_1 (f k) <<< ((Int32.ofNat k).toInt64 &&& 63)).toBitVec.getLsbD j = (decide (j = k) && f k) := by
    cases f k
    · rw [show tz_1 false = 0 from rfl, tz_sh0 k hk, Bool.and_false]
      exact BitVec.getLsbD_zero
    · rw [show tz_1 true = 1 from rfl, tz_sh k hk j hj, Bool.and_true]
  rw [Int64.toBitVec_or, BitVec.getLsbD_or, h j hj, e]
  by_cases e1 : j = k
  · subst e1
    rw [decide_eq_false (Nat.lt_irrefl j), decide_eq_true rfl, decide_eq_true (Nat.lt_succ_self j), Bool.false_and, Bool.false_or]
  · rw [decide_eq_false e1, Bool.false_and, Bool.or_false]
    by_cases e2 : j < k
    · rw [decide_eq_true e2, decide_eq_true (show j < k + 1 by omega)]
    · rw [decide_eq_false e2, decide_eq_false (show ¬ j < k + 1 by omega)]
theorem tz_t {n : Nat} (h : tt_n n) {y : Int64} {T : a_T} (hy : tz_B y (a_at T) (2 ^ n)) : y = tt n T := tt_of h hy
/-- one bit read -/
theorem tz_rd (x : Int64) {i : Nat} (hi : i < 64) : (x.toUInt64 >>> UInt64.ofNat i).toInt64 &&& 1 = tz_1 (x.toBitVec.getLsbD i) := by
  refine tt_ext fun k hk => ?_
  rw [Int64.toBitVec_and, BitVec.getLsbD_and, a_shr x i hi k]
  have e1 : ∀ k, k < 64 → (1 : Int64).toBitVec.getLsbD k = decide (k = 0) := by decide +kernel
  rw [e1 k hk]
  by_cases e : k = 0
  · subst e
    rw [Nat.add_zero, decide_eq_true rfl, Bool.and_true]
    cases x.toBitVec.getLsbD i <;> rfl
  · rw [decide_eq_false e, Bool.and_false]
    cases x.toBitVec.getLsbD i
    · exact BitVec.getLsbD_zero.symm
    · exact ((e1 k hk).trans (decide_eq_false e)).symm
/-- the law's place of the bit, and the shift's count -/
theorem tz_ix : ∀ v, v < 5 → ∀ k, k < 32 → (Int32.ofNat k &&& ((Int32.ofInt 1 <<< (Int32.ofNat v &&& 31)) ^^^ Int32.ofInt (-1)) ||| (Int32.ofNat 0 <<< (Int32.ofNat v &&& 31))) = Int32.ofNat (a_sb k v false) ∧ (Int32.ofNat k &&& ((Int32.ofInt 1 <<< (Int32.ofNat v &&& 31)) ^^^ Int32.ofInt (-1)) ||| (Int32.ofNat 1 <<< (Int32.ofNat v &&& 31))) = Int32.ofNat (a_sb k v true) := by decide +kernel
theorem tz_ct : ∀ i, i < 64 → (Int32.ofNat i).toInt64.toUInt64 &&& Int64.toUInt64 63 = UInt64.ofNat i := by decide +kernel
theorem tz_sb : ∀ n, n < 6 → ∀ v, v < n → ∀ k, k < 2 ^ n → a_sb k v false < 2 ^ n ∧ a_sb k v true < 2 ^ n := by decide +kernel
theorem tz_w {n v : Nat} (h : tt_n n) (hv : v < n) (T : a_T) (b : Bool) {y : Int64} (hy : tz_B y (fun k => (tt n T).toBitVec.getLsbD (a_sb k v b)) (2 ^ n)) : y = tt n (a_cf T v b) := by
  have hn : n < 6 := by unfold tt_n at h; omega
  have hp := tt_pw h
  refine tt_of h fun k hk => ?_
  rw [hy k hk]
  by_cases e : k < 2 ^ n
  · have h2 := tz_sb n hn v hv k e
    have h3 : a_sb k v b < 2 ^ n := by cases b; exact h2.1; exact h2.2
    rw [decide_eq_true e, Bool.true_and, Bool.true_and]
    show (tt n T).toBitVec.getLsbD (a_sb k v b) = _
    rw [tt_b h T (by omega), decide_eq_true h3, Bool.true_and, a_cf_at T v (by omega) b k (by omega)]
  · rw [decide_eq_false e, Bool.false_and, Bool.false_and]
