/-! CLASS: counts, letters, dependence, equality (what queries need) -/
theorem a_at_op5 (T U : a_T) (k : Nat) (hk : k < 256) : a_at (a_op 5 T U) k = (a_at T k && !a_at U k) := by
  unfold a_op
  rw [a_at4 _ k hk]
  show ((a_wd T (k / 64)) &&& ((a_wd U (k / 64)) ^^^ (-1 : Int64))).toBitVec.getLsbD (k % 64) = _
  rw [Int64.toBitVec_and, BitVec.getLsbD_and, Int64.toBitVec_xor, BitVec.getLsbD_xor, a_neg1 _ (Nat.mod_lt _ (by decide))]
  unfold a_at
  cases (a_wd T (k / 64)).toBitVec.getLsbD (k % 64) <;> cases (a_wd U (k / 64)).toBitVec.getLsbD (k % 64) <;> rfl
theorem a_at_op2 (T U : a_T) (k : Nat) (hk : k < 256) : a_at (a_op 2 T U) k = (a_at T k != a_at U k) := by
  unfold a_op
  rw [a_at4 _ k hk]
  show ((a_wd T (k / 64)) ^^^ (a_wd U (k / 64))).toBitVec.getLsbD (k % 64) = _
  rw [Int64.toBitVec_xor, BitVec.getLsbD_xor]
  unfold a_at
  cases (a_wd T (k / 64)).toBitVec.getLsbD (k % 64) <;> cases (a_wd U (k / 64)).toBitVec.getLsbD (k % 64) <;> rfl
theorem a_cnt_0 (T : a_T) : ∀ n, (∀ j, j < n → a_at T j = false) → a_cnt T n = 0
  | 0, _ => rfl
  | n + 1, h => by
    show a_cnt T n + (if a_at T n then 1 else 0) = 0
    rw [a_cnt_0 T n (fun j hj => h j (by omega)), h n (Nat.lt_succ_self n)]
    rfl
/-- the first model has number 0 -/
theorem a_ff_m0 (T : a_T) {n : Nat} (hn : n ≤ 256) : a_ff (fun k => a_at T k && decide (a_sum (a_atI T) k = 0)) n = a_ff (fun k => a_at T k) n := by
  rcases a_ff_is (fun k => a_at T k) n with ⟨k, h1, h2, h3, h4⟩ | ⟨h1, h2⟩
  · rw [h2]
    refine a_ff_some h1 ?_ (fun j hj => by rw [show a_at T j = false from h4 j hj]; rfl)
    rw [show a_at T k = true from h3, a_cnt_e, a_cnt_0 T k (fun j hj => h4 j hj)]
    rfl
  · rw [h1]
    exact a_ff_none fun j hj => by rw [show a_at T j = false from h2 j hj]; rfl
/-- how many of the first n have P -/
def a_nb (P : Nat → Bool) : Nat → Nat
  | 0 => 0
  | n + 1 => a_nb P n + (if P n then 1 else 0)
theorem a_nb_le (P : Nat → Bool) : ∀ n, a_nb P n ≤ n
  | 0 => Nat.le_refl _
  | n + 1 => by
    have ih := a_nb_le P n
    show a_nb P n + (if P n then 1 else 0) ≤ n + 1
    split <;> omega
theorem a_nb_e (P : Nat → Bool) : ∀ n, a_sum (fun k => if P k then (1 : Int32) else 0) n = Int32.ofNat (a_nb P n)
  | 0 => rfl
  | n + 1 => by
    show a_sum (fun k => if P k then (1 : Int32) else 0) n + (if P n then 1 else 0) = Int32.ofNat (a_nb P n + (if P n then 1 else 0))
    rw [a_nb_e P n]
    cases P n with
    | true => exact mg_inc _
    | false => exact Int32.add_zero _
theorem a_nb_p {P : Nat → Bool} {n : Nat} : 0 < a_nb P n ↔ (a_ff P n).isSome = true := by
  induction n with
  | zero => exact ⟨fun h => absurd h (Nat.lt_irrefl 0), fun h => by rw [a_ff_0] at h; cases h⟩
  | succ n ih =>
    rw [a_ff_s]
    show 0 < a_nb P n + (if P n then 1 else 0) ↔ _
    cases hf : a_ff P n with
    | none =>
      rw [hf] at ih
      have h0 : a_nb P n = 0 := by
        by_cases q : 0 < a_nb P n
        · have := ih.mp q
          cases this
        · omega
      rw [h0]
      cases P n <;> simp
    | some k =>
      rw [hf] at ih
      have := ih.mpr rfl
      exact ⟨fun _ => rfl, fun _ => by omega⟩
theorem a_nb_c {P R : Nat → Bool} : ∀ {n}, (∀ k, k < n → P k = R k) → a_nb P n = a_nb R n
  | 0, _ => rfl
  | n + 1, h => by
    show a_nb P n + (if P n then 1 else 0) = a_nb R n + (if R n then 1 else 0)
    rw [a_nb_c (fun k hk => h k (by omega)), h n (Nat.lt_succ_self n)]
theorem a_nb_add (P : Nat → Bool) (m : Nat) : ∀ n, a_nb P (m + n) = a_nb P m + a_nb (fun i => P (m + i)) n
  | 0 => rfl
  | n + 1 => by
    show a_nb P (m + n) + (if P (m + n) then 1 else 0) = a_nb P m + (a_nb (fun i => P (m + i)) n + (if P (m + n) then 1 else 0))
    rw [a_nb_add P m n, Nat.add_assoc]
theorem a_nb_or {P R : Nat → Bool} : ∀ n, (∀ k, k < n → P k = true → R k = false) → a_nb (fun k => P k || R k) n = a_nb P n + a_nb R n
  | 0, _ => rfl
  | n + 1, h => by
    have ih := a_nb_or n (fun k hk => h k (by omega))
    have hn := h n (Nat.lt_succ_self n)
    show a_nb (fun k => P k || R k) n + (if P n || R n then 1 else 0) = a_nb P n + (if P n then 1 else 0) + (a_nb R n + (if R n then 1 else 0))
    rw [ih]
    cases hp : P n with
    | true =>
      rw [hn hp]
      simp only [Bool.or_false, if_true, Bool.false_eq_true, if_false]
      omega
    | false =>
      rw [Bool.false_or]
      simp only [Bool.false_eq_true, if_false]
      omega
theorem a_nb_f {P : Nat → Bool} : ∀ n, (∀ k, k < n → P k = false) → a_nb P n = 0
  | 0, _ => rfl
  | n + 1, h => by
    show a_nb P n + (if P n then 1 else 0) = 0
    rw [a_nb_f n (fun k hk => h k (by omega)), h n (Nat.lt_succ_self n)]
    rfl
theorem a_blk : ∀ v, v < 8 → ∀ b, b < 128 → ∀ i, i < 2 ^ v → (2 ^ (v + 1) * b + 2 ^ (v + 1) ≤ 256) → (2 ^ (v + 1) * b + i).testBit v = false ∧ (2 ^ (v + 1) * b + 2 ^ v + i).testBit v = true ∧ a_sb (2 ^ (v + 1) * b + i) v true = 2 ^ (v + 1) * b + 2 ^ v + i ∧ a_sb (2 ^ (v + 1) * b + 2 ^ v + i) v false = 2 ^ (v + 1) * b + i := by
  intro v hv b hb i hi h
  have e : 2 ^ (v + 1) = 2 * 2 ^ v := by rw [Nat.pow_succ, Nat.mul_comm]
  have hp := Nat.two_pow_pos v
  have t1 : (2 ^ (v + 1) * b + i).testBit v = false := by
    rw [Nat.testBit_eq_decide_div_mod_eq]
    have : (2 ^ (v + 1) * b + i) / 2 ^ v = 2 * b := by
      rw [e, Nat.mul_comm 2, Nat.mul_assoc, Nat.mul_add_div hp, Nat.div_eq_of_lt hi, Nat.add_zero]
    rw [this]
    exact decide_eq_false (by omega)
  have t2 : (2 ^ (v + 1) * b + 2 ^ v + i).testBit v = true := by
    rw [Nat.testBit_eq_decide_div_mod_eq]
    have : (2 ^ (v + 1) * b + 2 ^ v + i) / 2 ^ v = 2 * b + 1 := by
      rw [show 2 ^ (v + 1) * b + 2 ^ v + i = 2 ^ v * (2 * b + 1) + i from by rw [e, Nat.mul_add, Nat.mul_one, Nat.mul_comm 2, Nat.mul_assoc], Nat.mul_add_div hp, Nat.div_eq_of_lt hi, Nat.add_zero]
    rw [this]
    exact decide_eq_true (by omega)
  refine ⟨t1, t2, ?_, ?_⟩
  · unfold a_sb
    rw [if_pos rfl, t1, if_neg (by decide)]
    omega
  · unfold a_sb
    rw [if_neg (by decide), t2, if_pos rfl]
    omega
/-- both values of v: twice as many -/
theorem a_nb_2 (P : Nat → Bool) {v : Nat} (hv : v < 8) (hP : ∀ k, k < 256 → P (a_sb k v (!k.testBit v)) = P k) : ∀ b, 2 ^ (v + 1) * b ≤ 256 → a_nb P (2 ^ (v + 1) * b) = 2 * a_nb (fun k => !k.testBit v && P k) (2 ^ (v + 1) * b)
  | 0, _ => rfl
  | b + 1, h => by
    have e : 2 ^ (v + 1) = 2 ^ v + 2 ^ v := by rw [Nat.pow_succ]; omega
    have h1 : 2 ^ (v + 1) * b + 2 ^ (v + 1) ≤ 256 := h
    have ih := a_nb_2 P hv hP b (Nat.le_trans (Nat.le_add_right _ _) h1)
    have hp := Nat.two_pow_pos (v + 1)
    have hb : b < 128 := by
      have h2 : 2 * b ≤ 2 ^ (v + 1) * b := Nat.mul_le_mul_right b (by rw [e]; have := Nat.two_pow_pos v; omega)
      have := Nat.two_pow_pos v
      omega
    have bl := a_blk v hv b hb
    rw [show 2 ^ (v + 1) * (b + 1) = 2 ^ (v + 1) * b + 2 ^ v + 2 ^ v from by rw [Nat.mul_add, Nat.mul_one]; omega]
    rw [a_nb_add, a_nb_add P, a_nb_add, a_nb_add (fun k => !k.testBit v && P k), ih]
    have s1 : a_nb (fun i => P (2 ^ (v + 1) * b + 2 ^ v + i)) (2 ^ v) = a_nb (fun i => P (2 ^ (v + 1) * b + i)) (2 ^ v) := a_nb_c fun i hi => by
      obtain ⟨t1, t2, t3, t4⟩ := bl i hi h1
      have := hP (2 ^ (v + 1) * b + i) (by omega)
      rw [t1] at this
      rw [← this]
      show P _ = P (a_sb _ v true)
      rw [t3]
    have s2 : a_nb (fun i => (fun k => !k.testBit v && P k) (2 ^ (v + 1) * b + i)) (2 ^ v) = a_nb (fun i => P (2 ^ (v + 1) * b + i)) (2 ^ v) := a_nb_c fun i hi => by
      show (!(2 ^ (v + 1) * b + i).testBit v && P (2 ^ (v + 1) * b + i)) = _
      rw [(bl i hi h1).1]
      rfl
    have s3 : a_nb (fun i => (fun k => !k.testBit v && P k) (2 ^ (v + 1) * b + 2 ^ v + i)) (2 ^ v) = 0 := a_nb_f _ fun i hi => by
      show (!(2 ^ (v + 1) * b + 2 ^ v + i).testBit v && P (2 ^ (v + 1) * b + 2 ^ v + i)) = false
      rw [(bl i hi h1).2.1]
      rfl
    rw [s1, s2, s3]
    omega
theorem a_sb_tb : ∀ v, v < 8 → ∀ k, k < 256 → (a_sb k v (!k.testBit v)).testBit v = !k.testBit v := by decide +kernel
theorem a_influ (T : a_T) {v nv : Nat} (hv : v < nv) (h8 : nv ≤ 8) : a_sum (fun k => if a_at T k = a_at T (a_sb k v (!k.testBit v)) then (0 : Int32) else 1) (2 ^ nv) = Int32.ofInt 2 * (a_sum (fun k => if a_stp T v false k then 1 else 0) (2 ^ nv) + a_sum (fun k => if a_stp T v true k then 1 else 0) (2 ^ nv)) := by
  have hp := mg_p256 (n := nv) (by omega)
  have e1 : a_sum (fun k => if a_at T k = a_at T (a_sb k v (!k.testBit v)) then (0 : Int32) else 1) (2 ^ nv) = a_sum (fun k => if (fun k => a_at T k != a_at T (a_sb k v (!k.testBit v))) k then (1 : Int32) else 0) (2 ^ nv) := a_sum_c fun k hk => by
    by_cases q : a_at T k = a_at T (a_sb k v (!k.testBit v))
    · rw [if_pos q, if_neg (by simpa using q)]
    · rw [if_neg q, if_pos (by simpa using q)]
  rw [e1, a_nb_e, a_nb_e, a_nb_e]
  have e2 : 2 ^ nv = 2 ^ (v + 1) * 2 ^ (nv - (v + 1)) := by rw [← Nat.pow_add]; congr 1; omega
  have e3 := a_nb_2 (fun k => a_at T k != a_at T (a_sb k v (!k.testBit v))) (v := v) (by omega) (fun k hk => by
    have hx := a_sb_lt' v (by omega) k hk (!k.testBit v)
    show (a_at T (a_sb k v (!k.testBit v)) != a_at T (a_sb (a_sb k v (!k.testBit v)) v (!(a_sb k v (!k.testBit v)).testBit v))) = _
    have tb : (a_sb k v (!k.testBit v)).testBit v = !k.testBit v := a_sb_tb v (by omega) k hk
    rw [tb, a_sb_sb' v (by omega) k hk, Bool.not_not, show a_sb k v (k.testBit v) = k from (a_sb_lt v (by omega) k hk).2.2]
    cases a_at T k <;> cases a_at T (a_sb k v (!k.testBit v)) <;> rfl) (2 ^ (nv - (v + 1))) (by rw [← e2]; exact hp)
  rw [← e2] at e3
  rw [e3]
  have e4 : a_nb (fun k => !k.testBit v && (a_at T k != a_at T (a_sb k v (!k.testBit v)))) (2 ^ nv) = a_nb (a_stp T v false) (2 ^ nv) + a_nb (a_stp T v true) (2 ^ nv) := by
    rw [← a_nb_or (P := a_stp T v false) (R := a_stp T v true) (2 ^ nv) (fun k hk h => ?_)]
    · refine a_nb_c fun k hk => ?_
      show (!k.testBit v && (a_at T k != a_at T (a_sb k v (!k.testBit v)))) = (a_stp T v false k || a_stp T v true k)
      unfold a_stp
      cases k.testBit v with
      | true => rfl
      | false =>
        show (true && (a_at T k != a_at T (a_sb k v true))) = _
        cases a_at T k <;> cases a_at T (a_sb k v true) <;> rfl
    · unfold a_stp at h ⊢
      cases hb : a_at T k with
      | true => rw [hb] at h; simp at h
      | false => simp
  rw [e4]
  have l1 := a_nb_le (a_stp T v false) (2 ^ nv)
  have l2 := a_nb_le (a_stp T v true) (2 ^ nv)
  rw [← Int32.ofNat_add, show Int32.ofInt 2 = Int32.ofNat 2 from rfl, ← Int32.ofNat_mul]
/-- one letter less -/
theorem a_pk_shr {l : List Nat} {c : Nat} (h : a_nm7 (l ++ [c])) : ((a_pk (l ++ [c])).toUInt64 >>> (((Int8.ofInt 8).toInt32).toInt64.toUInt64 &&& Int64.toUInt64 63)).toInt64 = a_pk l := by
  have h1 := a_pn_56 h.1 h.2
  have hc := h.1 c (List.mem_append_right _ List.mem_cons_self)
  rw [a_pn_s] at h1
  apply Int64.toBitVec_inj.mp
  apply BitVec.eq_of_toNat_eq
  show ((a_pk (l ++ [c])).toUInt64 >>> (8 : UInt64)).toBitVec.toNat = (a_pk l).toBitVec.toNat
  rw [UInt64.toBitVec_shiftRight]
  show ((a_pk (l ++ [c])).toBitVec >>> ((8 : UInt64).toBitVec % 64)).toNat = _
  rw [show (8 : UInt64).toBitVec % 64 = 8#64 from by decide, BitVec.ushiftRight_eq', BitVec.toNat_ushiftRight]
  have e : ∀ m : List Nat, (a_pk m).toBitVec.toNat = a_pn m % 2 ^ 64 := fun m => by
    show (Int64.ofNat (a_pn m)).toBitVec.toNat = _
    rw [Int64.toBitVec_ofNat']
    exact BitVec.toNat_ofNat _ _
  rw [e, e, a_pn_s, Nat.mod_eq_of_lt (by omega), Nat.mod_eq_of_lt (by omega), show (8#64).toNat = 8 from rfl, Nat.shiftRight_eq_div_pow]
  omega
