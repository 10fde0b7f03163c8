/-! REFERENCE: slots and tables of nodes -/
def a_mix (T : a_T) : Int64 :=
  let x := T.1 * 31 + T.2.1 * 1000003 + T.2.2.1 * 998244353 + T.2.2.2 * 7919
  let y := x ^^^ (x.toUInt64 >>> (((Int8.ofInt 33).toInt32).toInt64.toUInt64 &&& Int64.toUInt64 63)).toInt64
  y ^^^ (y.toUInt64 >>> (((Int8.ofInt 17).toInt32).toInt64.toUInt64 &&& Int64.toUInt64 63)).toInt64
def a_slN (T : a_T) : Nat := (a_mix T).toBitVec.toNat % 4096
theorem a_slN_lt (T : a_T) : a_slN T < 4096 := Nat.mod_lt _ (by decide)
theorem a_sl_eq (y : Int64) : (y &&& 4095).toInt32 = Int32.ofNat (y.toBitVec.toNat % 4096) := by
  have e : (y &&& 4095) = Int64.ofNat (y.toBitVec.toNat % 4096) := by
    apply Int64.toBitVec_inj.mp
    apply BitVec.eq_of_toNat_eq
    show (y.toBitVec &&& 4095#64).toNat = (BitVec.ofNat 64 (y.toBitVec.toNat % 4096)).toNat
    rw [BitVec.toNat_and, BitVec.toNat_ofNat, BitVec.toNat_ofNat, show 4095 % 2 ^ 64 = 2 ^ 12 - 1 by decide, Nat.and_two_pow_sub_one_eq_mod]
    omega
  rw [e]
  apply Int32.toBitVec_inj.mp
  apply BitVec.eq_of_toNat_eq
  have hl : y.toBitVec.toNat % 4096 < 4096 := Nat.mod_lt _ (by decide)
  generalize y.toBitVec.toNat % 4096 = n at hl
  show ((BitVec.ofNat 64 n).signExtend 32).toNat = (BitVec.ofNat 32 n).toNat
  rw [BitVec.signExtend_eq_setWidth_of_le _ (by decide), BitVec.toNat_setWidth, BitVec.toNat_ofNat, BitVec.toNat_ofNat]
  omega
section RM
variable {scr : Nat × (Nat → Int32)} {t : List mg_S}
theorem r196 {K : mg_K} (d : Nat) (a b c e : Int64) (G : mg_G) : mg_m K (d + 1) 196 [.long a, .long b, .long c, .long e] G (mg_v (.int (Int32.ofNat (a_slN (a, b, c, e)))) G) := by
  refine mg_me [] 40 my_196 ms_196 (Nat.le_of_ble_eq_true rfl) ?_
  refine ⟨Or.inl rfl, ?_, rfl, rfl⟩
  unfold a_slN
  rw [← a_sl_eq]
  rfl
theorem r197 (d i : Nat) (hi : i < 1000) (a b c e : Int64) (G : mg_G) : mg_m (mg_KM scr t) (d + 1) 197 [.ref 148, .int (Int32.ofNat i), .long a, .long b, .long c, .long e] G (mg_v (.int (if ((G.2.1 155 (4 * i), G.2.1 155 (4 * i + 1), G.2.1 155 (4 * i + 2), G.2.1 155 (4 * i + 3)) : a_T) = (a, b, c, e) then 1 else 0)) G) := by
  refine mg_me [] 60 my_197 ms_197 (Nat.le_of_ble_eq_true rfl) ?_
  refine ⟨_, mg_Fs rfl rfl, _, _, 4 * i, mg_Al rfl (by decide), mg_ixE (by rw [Int32.ofNat_mul]; rfl) (by omega), by omega, ?_⟩
  refine ⟨fun h0 => ?_, fun h0 => ?_⟩
  · exact ⟨Or.inr rfl, by rw [if_neg (fun q => h0 ((lg_cmp_eq _ _).mpr (a_eq4.mp q).1))]; rfl, rfl, rfl⟩
  refine ⟨_, mg_Fs rfl rfl, _, _, 4 * i + 1, mg_Al rfl (by decide), mg_ixE (by rw [Int32.ofNat_add, Int32.ofNat_mul]; rfl) (by omega), by omega, ?_⟩
  refine ⟨fun h1 => ?_, fun h1 => ?_⟩
  · exact ⟨Or.inr rfl, by rw [if_neg (fun q => h1 ((lg_cmp_eq _ _).mpr (a_eq4.mp q).2.1))]; rfl, rfl, rfl⟩
  refine ⟨_, mg_Fs rfl rfl, _, _, 4 * i + 2, mg_Al rfl (by decide), mg_ixE (by rw [Int32.ofNat_add, Int32.ofNat_mul]; rfl) (by omega), by omega, ?_⟩
  refine ⟨fun h2 => ?_, fun h2 => ?_⟩
  · exact ⟨Or.inr rfl, by rw [if_neg (fun q => h2 ((lg_cmp_eq _ _).mpr (a_eq4.mp q).2.2.1))]; rfl, rfl, rfl⟩
  refine ⟨_, mg_Fs rfl rfl, _, _, 4 * i + 3, mg_Al rfl (by decide), mg_ixE (by rw [Int32.ofNat_add, Int32.ofNat_mul]; rfl) (by omega), by omega, ?_⟩
  refine ⟨fun h3 => ?_, fun h3 => ?_⟩
  · exact ⟨Or.inr rfl, by rw [if_neg (fun q => h3 ((lg_cmp_eq _ _).mpr (a_eq4.mp q).2.2.2))]; rfl, rfl, rfl⟩
  · exact ⟨Or.inr rfl, by rw [if_pos (a_eq4.mpr ⟨(lg_cmp_eq _ _).mp h0, (lg_cmp_eq _ _).mp h1, (lg_cmp_eq _ _).mp h2, (lg_cmp_eq _ _).mp h3⟩)]; rfl, rfl, rfl⟩
theorem r199 (d v : Nat) (hv : v < 8) (a b c e : Int64) (G : mg_G) : mg_m (mg_KM scr t) (d + 3) 199 [.ref 148, .long a, .long b, .long c, .long e, .int (Int32.ofNat v)] G (mg_v (.int (if a_dep (G.2.1 154) (a, b, c, e) v then 1 else 0)) G) := by
  have h8 := mg_v8 v hv
  refine mg_me [] 120 my_199 ms_199 (Nat.le_of_ble_eq_true rfl) ?_
  refine ⟨fun h => absurd h (by decide), fun _ => ?_⟩
  refine ⟨Or.inr ⟨_, rfl⟩, mg_cv (r188 d a b c e (Int32.ofNat v) 0 0 h8 G) (by omega) ?_⟩
  refine ⟨Or.inr ⟨_, rfl⟩, mg_cv (r188 d a b c e (Int32.ofNat v) 1 0 h8 G) (by omega) ?_⟩
  refine ⟨fun h0 => ?_, fun h0 => ⟨Or.inr rfl, by rw [show a_dep (G.2.1 154) (a, b, c, e) v = true from decide_eq_true (fun q => h0 ((lg_cmp_eq _ _).mpr (congrArg (fun q : a_T => q.1) q)))]; rfl, rfl, rfl⟩⟩
  refine ⟨fun h => absurd h (by decide), fun _ => ?_⟩
  refine ⟨Or.inr ⟨_, rfl⟩, mg_cv (r188 d a b c e (Int32.ofNat v) 0 1 h8 G) (by omega) ?_⟩
  refine ⟨Or.inr ⟨_, rfl⟩, mg_cv (r188 d a b c e (Int32.ofNat v) 1 1 h8 G) (by omega) ?_⟩
  refine ⟨fun h1 => ?_, fun h1 => ⟨Or.inr rfl, by rw [show a_dep (G.2.1 154) (a, b, c, e) v = true from decide_eq_true (fun q => h1 ((lg_cmp_eq _ _).mpr (congrArg (fun q : a_T => q.2.1) q)))]; rfl, rfl, rfl⟩⟩
  refine ⟨fun h => absurd h (by decide), fun _ => ?_⟩
  refine ⟨Or.inr ⟨_, rfl⟩, mg_cv (r188 d a b c e (Int32.ofNat v) 0 2 h8 G) (by omega) ?_⟩
  refine ⟨Or.inr ⟨_, rfl⟩, mg_cv (r188 d a b c e (Int32.ofNat v) 1 2 h8 G) (by omega) ?_⟩
  refine ⟨fun h2 => ?_, fun h2 => ⟨Or.inr rfl, by rw [show a_dep (G.2.1 154) (a, b, c, e) v = true from decide_eq_true (fun q => h2 ((lg_cmp_eq _ _).mpr (congrArg (fun q : a_T => q.2.2.1) q)))]; rfl, rfl, rfl⟩⟩
  refine ⟨fun h => absurd h (by decide), fun _ => ?_⟩
  refine ⟨Or.inr ⟨_, rfl⟩, mg_cv (r188 d a b c e (Int32.ofNat v) 0 3 h8 G) (by omega) ?_⟩
  refine ⟨Or.inr ⟨_, rfl⟩, mg_cv (r188 d a b c e (Int32.ofNat v) 1 3 h8 G) (by omega) ?_⟩
  refine ⟨fun h3 => ?_, fun h3 => ⟨Or.inr rfl, by rw [show a_dep (G.2.1 154) (a, b, c, e) v = true from decide_eq_true (fun q => h3 ((lg_cmp_eq _ _).mpr (congrArg (fun q : a_T => q.2.2.2) q)))]; rfl, rfl, rfl⟩⟩
  refine ⟨fun _ => ?_, fun h => absurd h (by decide)⟩
  have e9 : a_dep (G.2.1 154) (a, b, c, e) v = false := decide_eq_false (fun q => q (a_eq4.mpr ⟨(lg_cmp_eq _ _).mp h0, (lg_cmp_eq _ _).mp h1, (lg_cmp_eq _ _).mp h2, (lg_cmp_eq _ _).mp h3⟩))
  exact ⟨Or.inr rfl, by rw [e9]; rfl, rfl, rfl⟩
end RM
