/-! NUMBERS of the law; its small methods -/
theorem tz_div {a b : Nat} (ha : a < 2147483648) (hb : 0 < b) (hb2 : b < 2147483648) : Int32.ofNat a / Int32.ofNat b = Int32.ofNat (a / b) := by
  have h1 : a / b ≤ a := Nat.div_le_self a b
  apply Int32.toInt_inj.mp
  rw [Int32.toInt_div, mg_toN ha, mg_toN hb2, mg_toN (by omega), Int.tdiv_eq_ediv_of_nonneg (by omega), ← Int.natCast_ediv]
  have h2 : (0 : Int) ≤ ((a / b : Nat) : Int) := Int.natCast_nonneg _
  rw [Int.bmod_eq_of_le (by omega) (by omega)]
theorem tz_rem {a b : Nat} (ha : a < 2147483648) (hb : 0 < b) (hb2 : b < 2147483648) : Int32.ofNat a - Int32.ofNat a / Int32.ofNat b * Int32.ofNat b = Int32.ofNat (a % b) := by
  have h1 := Nat.div_add_mod a b
  have h2 : b * (a / b) = a / b * b := Nat.mul_comm _ _
  rw [tz_div ha hb hb2, ← Int32.ofNat_mul, mg_subN (by omega)]
  congr 1
  omega
theorem tz_8 {a : Nat} (ha : a < 2147483648) : Int32.ofNat a / (Int8.ofInt 8).toInt32 = Int32.ofNat (a / 8) := tz_div (b := 8) ha (by decide) (by decide)
/-- an int without its sign -/
theorem tz_abs (x : Int32) : ∃ a, a < 2147483648 ∧ x &&& 2147483647 = Int32.ofNat a := by
  have h : (x &&& 2147483647).toBitVec.toNat = x.toBitVec.toNat % 2147483648 := by
    show (x.toBitVec &&& 2147483647#32).toNat = _
    rw [BitVec.toNat_and]
    exact Nat.and_two_pow_sub_one_eq_mod _ 31
  have h2 : (x &&& 2147483647).toInt = ((x.toBitVec.toNat % 2147483648 : Nat) : Int) := by
    show (x &&& 2147483647).toBitVec.toInt = _
    rw [BitVec.toInt_eq_toNat_of_lt (by rw [h]; omega), h]
  refine ⟨x.toBitVec.toNat % 2147483648, by omega, Int32.toInt_inj.mp ?_⟩
  rw [h2, Int32.toInt_ofNat_of_lt (by omega)]
/-- a call of the class that throws nothing -/
theorem cA_go {K : mg_K} {d d' y : Nat} {A : List Value} {G : mg_G} {ex : Int32 → String} {S : a_S} {v : Int32} {Q : mg_Q} (h : mg_m K d y A G (cA G ex S (0, v))) (hd : d ≤ d') (hq : ∀ q G2, q ≤ 2 → cT G2 S → cFr148 G G2 → Q (.inl (some (.int v))) q G2) : mg_m K d' y A G Q := by
  refine mg_m_mono h hd ?_
  rintro o q G2 ⟨⟨-, rfl⟩ | ⟨h0, -⟩, h1, h2, h3⟩
  · exact hq q G2 h1 h2 h3
  · exact absurd rfl h0
section TR
variable {L : Nat} {xs : Nat → Int32} {sh : List mg_S} {K : mg_K} {G : mg_G}
theorem t203 (d : Nat) (hL : L ≤ 260) (i : Nat) (hi : i < 1000) {n : Nat} (h0 : 0 < n) (hn : n < 2147483648) : ∃ r, r < n ∧ mg_m ((L, xs), sh) (d + 1) 203 [.ref 1000002, .int (Int32.ofNat i), .int (Int32.ofNat n)] G (mg_v (.int (Int32.ofNat r)) G) := by
  by_cases h : i < L
  · obtain ⟨a, ha, e⟩ := tz_abs (xs i)
    refine ⟨a % n, Nat.mod_lt _ h0, ?_⟩
    have n0 : ¬ Int32.ofNat n = 0 := fun q => absurd ((mg_eqN (b := 0) hn (by decide)).mp q) (by omega)
    refine mg_me [13] 40 my_203 ms_203 (Nat.le_of_ble_eq_true rfl) ?_
    refine ⟨0, L, _, mg_Ao rfl (by decide), by decide, ?_⟩
    refine ⟨fun q => absurd q (mg_nle h (by omega)), fun _ => ?_⟩
    refine ⟨L, _, i, mg_Ao rfl (by decide), mg_ixN (by omega), h, ?_⟩
    refine mg_dds rfl (if_neg n0) ?_
    refine mg_go [] 20 14 ms_203 ?_
    refine ⟨Or.inl rfl, ?_⟩
    have e9 : (xs i &&& 2147483647) - (xs i &&& 2147483647) / Int32.ofNat n * Int32.ofNat n = Int32.ofNat (a % n) := by
      rw [e]
      exact tz_rem ha h0 hn
    exact ⟨congrArg (fun x => (Sum.inl (some (Value.int x)) : Option Value ⊕ String)) e9, rfl, rfl⟩
  · refine ⟨0, h0, ?_⟩
    refine mg_me [] 40 my_203 ms_203 (Nat.le_of_ble_eq_true rfl) ?_
    refine ⟨0, L, _, mg_Ao rfl (by decide), by decide, ?_⟩
    refine ⟨fun _ => ⟨Or.inl rfl, rfl, rfl, rfl⟩, fun q => absurd ((mg_ltN (by omega) (by omega)).mp q) h⟩
theorem t210 (d : Nat) (op : Int32) (x y : Int64) : mg_m K (d + 1) 210 [.int op, .long x, .long y] G (mg_v (.long (a_comb op x y)) G) := by
  refine mg_me [] 20 my_210 ms_210 (Nat.le_of_ble_eq_true rfl) ?_
  refine ⟨by decide, fun h => ?_, fun h => ?_, fun h => ?_, fun h => ?_, fun h => ?_, fun h => ?_, trivial⟩
  · refine ⟨?_, rfl, rfl⟩
    unfold a_comb
    have ne : ∀ k : Int, 0 ≤ k → k ≤ 4 → ¬ op.toInt = k := fun k h1 h2 h3 => by omega
    rw [if_neg (fun e => ne 0 (by decide) (by decide) (by rw [e]; rfl)), if_neg (fun e => ne 1 (by decide) (by decide) (by rw [e]; rfl)), if_neg (fun e => ne 2 (by decide) (by decide) (by rw [e]; rfl)), if_neg (fun e => ne 3 (by decide) (by decide) (by rw [e]; rfl)), if_neg (fun e => ne 4 (by decide) (by decide) (by rw [e]; rfl))]
  · have e := mg_op h (by decide)
    subst e
    exact ⟨rfl, rfl, rfl⟩
  · have e := mg_op h (by decide)
    subst e
    exact ⟨rfl, rfl, rfl⟩
  · have e := mg_op h (by decide)
    subst e
    exact ⟨rfl, rfl, rfl⟩
  · have e := mg_op h (by decide)
    subst e
    exact ⟨rfl, rfl, rfl⟩
  · have e := mg_op h (by decide)
    subst e
    exact ⟨rfl, rfl, rfl⟩
end TR
/-! the class's answers that the law asks for -/
theorem tq_1 (A : a_A) (u : Nat) : q260 A u (Int32.ofInt 1) = (0, Int32.ofNat (aF A)) := rfl
theorem tq_2 (A : a_A) (u : Nat) : q260 A u (Int32.ofInt 2) = (0, Int32.ofNat (aN A).length) := rfl
theorem tq_rt {A : a_A} {f : Nat} (hf : f < aF A) (h12 : aF A ≤ 12) : q264 A (Int32.ofNat f) (Int32.ofInt 0) = (0, Int32.ofNat (aR A f)) := by
  unfold q264
  rw [qF_y (vi_of hf (by omega))]
  rfl
theorem tq_lv {A : a_A} {v : Nat} (hv : v < aV A) (h8 : aV A ≤ 8) : q261 A (Int32.ofNat v) (Int32.ofInt 0) = (0, Int32.ofNat (a_lvl A v)) := by
  unfold q261
  rw [qV_y (vi_of hv (by omega))]
  rfl
theorem tq_vl {A : a_A} {f x : Nat} (hf : f < aF A) (h12 : aF A ≤ 12) (hx : x < 2 ^ aV A) (h8 : aV A ≤ 8) : q268 A (Int32.ofNat f) (Int32.ofNat x) = (0, a_atI (aT A f) x) := by
  have hp : 2 ^ aV A ≤ 2 ^ 8 := Nat.pow_le_pow_right (by decide) h8
  unfold q268
  rw [qF_y (vi_of hf (by omega)), vi_of hx (by omega)]
theorem tq_sm {A : a_A} {f g : Nat} (hf : f < aF A) (hg : g < aF A) (h12 : aF A ≤ 12) : q286 A (Int32.ofNat f) (Int32.ofNat g) = (0, if aT A f = aT A g then 1 else 0) := by
  unfold q286
  rw [qF_y (vi_of hf (by omega)), qF_y (vi_of hg (by omega))]
theorem tq_nd0 {A : a_A} {k : Nat} (hk : k < gN (aG A)) (hN : gN (aG A) ≤ 628) (h2 : 2 ≤ k) : q267 A (Int32.ofNat k) (Int32.ofInt 0) = (0, Int32.ofNat (aD A (gL (aG A) k))) := by
  unfold q267
  rw [vi_of hk (by omega)]
  show ((0 : Int32), if k < 2 then Int32.ofInt (-1) else Int32.ofNat (aD A (gL (aG A) k))) = _
  rw [if_neg (by omega)]
theorem tq_nd1 {A : a_A} {k : Nat} (hk : k < gN (aG A)) (hN : gN (aG A) ≤ 628) (h2 : 2 ≤ k) : q267 A (Int32.ofNat k) (Int32.ofNat 1) = (0, Int32.ofNat (gO (aG A) k)) := by
  unfold q267
  rw [vi_of hk (by omega)]
  show ((0 : Int32), if k < 2 then Int32.ofInt (-1) else Int32.ofNat (gO (aG A) k)) = _
  rw [if_neg (by omega)]
theorem tq_nd2 {A : a_A} {k : Nat} (hk : k < gN (aG A)) (hN : gN (aG A) ≤ 628) (h2 : 2 ≤ k) : q267 A (Int32.ofNat k) (Int32.ofNat 2) = (0, Int32.ofNat (gH (aG A) k)) := by
  unfold q267
  rw [vi_of hk (by omega)]
  show ((0 : Int32), if k < 2 then Int32.ofInt (-1) else Int32.ofNat (gH (aG A) k)) = _
  rw [if_neg (by omega)]
