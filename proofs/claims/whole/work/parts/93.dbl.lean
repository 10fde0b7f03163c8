/-! DOUBLES (pure): numbers that are no NaN, by a bound on the last digit's exponent -/
def f_ok (m : Int) (x : UInt64) : Prop := ∃ s c q, FP.Core.decode FP.Core.b64 x.toNat = .fin s c q ∧ c < 2 ^ 53 ∧ q ≤ m
theorem f_ok.mono {m n : Int} {x : UInt64} (h : f_ok m x) (hm : m ≤ n) : f_ok n x := by
  obtain ⟨s, c, q, h1, h2, h3⟩ := h
  exact ⟨s, c, q, h1, h2, by omega⟩
theorem f_qmin : FP.Core.b64.qmin = -1074 := by decide
theorem f_qmax : FP.Core.b64.qmax = 971 := by decide
theorem f_tails : FP.Core.b64.tails = 4503599627370496 := by decide
theorem f_exps : FP.Core.b64.exps = 2048 := by decide
theorem f_p53 : 2 ^ FP.Core.b64.p = 9007199254740992 := by decide
theorem f_2p53 : (2 : Nat) ^ 53 = 9007199254740992 := by decide
/-- no NaN -/
theorem f_ok.nn {m : Int} {x : UInt64} (h : f_ok m x) : x &&& 0x7fffffffffffffff ≤ 0x7ff0000000000000 := by
  obtain ⟨s, c, q, h1, -, -⟩ := h
  unfold FP.Core.decode at h1
  have hE : FP.Core.fieldE FP.Core.b64 x.toNat ≠ FP.Core.b64.exps - 1 := fun e => by
    rw [if_pos e] at h1
    split at h1 <;> cases h1
  unfold FP.Core.fieldE at hE
  rw [f_exps, f_tails] at hE
  rw [UInt64.le_iff_toNat_le, UInt64.toNat_and]
  show x.toNat &&& 9223372036854775807 ≤ 9218868437227405312
  rw [show (9223372036854775807 : Nat) = 2 ^ 63 - 1 from by decide, Nat.and_two_pow_sub_one_eq_mod]
  have h64 := x.toNat_lt
  omega
theorem f_enc {s : Bool} {c : Nat} {q : Int} (hc : c < 2 ^ 53) (h1 : -1074 ≤ q) (h2 : q ≤ 971) : f_ok q (UInt64.ofNat (FP.Core.encode FP.Core.b64 (.fin s c q))) := by
  rw [f_2p53] at hc
  have hs := Bool.toNat_le s
  unfold FP.Core.encode
  simp only
  rw [f_tails]
  by_cases h : c < 4503599627370496
  · rw [if_pos h]
    unfold FP.Core.assemble
    rw [f_tails, f_exps]
    have hn : (UInt64.ofNat ((s.toNat * 2048 + 0) * 4503599627370496 + c)).toNat = (s.toNat * 2048 + 0) * 4503599627370496 + c := by
      rw [UInt64.toNat_ofNat']
      exact Nat.mod_eq_of_lt (by omega)
    unfold f_ok FP.Core.decode FP.Core.fieldE FP.Core.fieldT
    rw [hn, f_exps, f_tails, f_qmin, if_neg (by omega), if_pos (by omega)]
    exact ⟨_, _, _, rfl, by rw [f_2p53]; omega, h1⟩
  · rw [if_neg h]
    unfold FP.Core.assemble
    rw [f_tails, f_exps, f_qmin]
    obtain ⟨e, he⟩ : ∃ e : Nat, q = -1074 + e := ⟨(q + 1074).toNat, by omega⟩
    have e1 : (q - -1074).toNat = e := by omega
    rw [e1]
    have hn : (UInt64.ofNat ((s.toNat * 2048 + (e + 1)) * 4503599627370496 + (c - 4503599627370496))).toNat = (s.toNat * 2048 + (e + 1)) * 4503599627370496 + (c - 4503599627370496) := by
      rw [UInt64.toNat_ofNat']
      exact Nat.mod_eq_of_lt (by omega)
    unfold f_ok FP.Core.decode FP.Core.fieldE FP.Core.fieldT
    rw [hn, f_exps, f_tails, f_qmin, if_neg (by omega), if_neg (by omega)]
    refine ⟨_, _, _, rfl, by rw [f_2p53]; omega, ?_⟩
    omega
theorem f_rd (s : Bool) (num : Nat) (e : Int) {k : Nat} {m : Int} (hn : num < 2 ^ k) (h1 : (k : Int) + e - 52 ≤ m) (h2 : -1073 ≤ m) (h3 : m ≤ 971) : ∃ s' c q, FP.Core.round FP.Core.b64 (.fin s num e) = .fin s' c q ∧ c < 2 ^ 53 ∧ -1074 ≤ q ∧ q ≤ m := by
  show ∃ s' c q, FP.Core.roundRatio FP.Core.b64 s num 1 e = .fin s' c q ∧ c < 2 ^ 53 ∧ -1074 ≤ q ∧ q ≤ m
  unfold FP.Core.roundRatio
  by_cases h0 : num = 0
  · rw [if_pos h0]
    exact ⟨_, _, _, rfl, by decide, by rw [f_qmin]; exact Int.le_refl _, by rw [f_qmin]; omega⟩
  · rw [if_neg h0]
    have hlog : num.log2 < k := (Nat.log2_lt h0).mpr hn
    have hlead : FP.Core.leading num 1 ≤ (num.log2 : Int) := by
      unfold FP.Core.leading
      have : (Nat.log2 1 : Int) = 0 := by decide
      simp only [this]
      split <;> omega
    have hq : -1074 ≤ FP.Core.quantum FP.Core.b64 num 1 e ∧ FP.Core.quantum FP.Core.b64 num 1 e ≤ m - 1 := by
      unfold FP.Core.quantum
      rw [f_qmin]
      have : ((FP.Core.b64.p : Nat) : Int) = 53 := by decide
      rw [this]
      omega
    generalize FP.Core.quantum FP.Core.b64 num 1 e = Q at hq
    unfold FP.Core.roundAt FP.Core.settle FP.Core.bound
    rw [f_qmax, f_p53]
    split
    · rename_i h
      rw [if_pos (by omega)]
      exact ⟨_, _, _, rfl, by rw [f_2p53]; exact h, hq.1, by omega⟩
    · rw [if_pos (by omega), f_tails]
      exact ⟨_, _, _, rfl, by decide, by omega, by omega⟩
theorem f_pm {c d : Nat} (hc : c < 2 ^ 53) (hd : d < 2 ^ 53) : c * d < 2 ^ 106 := by
  rw [show (2 : Nat) ^ 106 = 2 ^ 53 * 2 ^ 53 from by decide]
  exact Nat.mul_lt_mul'' hc hd
theorem f_mul {x y : UInt64} {m n r : Int} (hx : f_ok m x) (hy : f_ok n y) (h : m + n + 54 ≤ r) (h1 : -1073 ≤ r) (h2 : r ≤ 971) : f_ok r (FP.dmul x y) := by
  obtain ⟨s, c, q, a1, a2, a3⟩ := hx
  obtain ⟨t, d, p, b1, b2, b3⟩ := hy
  obtain ⟨u, e, w, c1, c2, c3, c4⟩ := f_rd (s != t) (c * d) (q + p) (k := 106) (m := r) (f_pm a2 b2) (by omega) h1 h2
  show f_ok r (UInt64.ofNat (FP.Core.encode FP.Core.b64 (FP.Core.round FP.Core.b64 (FP.Core.exactProduct (FP.Core.decode FP.Core.b64 x.toNat) (FP.Core.decode FP.Core.b64 y.toNat)))))
  rw [a1, b1]
  show f_ok r (UInt64.ofNat (FP.Core.encode FP.Core.b64 (FP.Core.round FP.Core.b64 (.fin (s != t) (c * d) (q + p)))))
  rw [c1]
  exact (f_enc c2 c3 (by omega)).mono c4
theorem f_un {c : Nat} {q e m : Int} (hc : c < 2 ^ 53) (hq : q ≤ m) (he : e ≤ q) : FP.Core.inUnits c q e < 2 ^ (53 + (m - e).toNat) := by
  unfold FP.Core.inUnits
  rw [Nat.pow_add]
  have h1 : (2 : Nat) ^ (q - e).toNat ≤ 2 ^ (m - e).toNat := Nat.pow_le_pow_right (by decide) (by omega)
  have h2 : (0 : Nat) < 2 ^ (m - e).toNat := Nat.pow_pos (by decide)
  exact Nat.lt_of_le_of_lt (Nat.mul_le_mul_left c h1) (Nat.mul_lt_mul_of_pos_right hc h2)
theorem f_sg (s t : Bool) (a b : Nat) : (FP.Core.signed s a + FP.Core.signed t b).natAbs ≤ a + b := by
  unfold FP.Core.signed
  cases s <;> cases t <;> simp only [if_true, if_false, Bool.false_eq_true] <;> omega
theorem f_sum {s t : Bool} {c d : Nat} {q p m : Int} (hc : c < 2 ^ 53) (hd : d < 2 ^ 53) (hq : q ≤ m) (hp : p ≤ m) (h1 : -1075 ≤ m) (h2 : m ≤ 969) : f_ok (m + 2) (UInt64.ofNat (FP.Core.encode FP.Core.b64 (FP.Core.round FP.Core.b64 (FP.Core.exactSum (.fin s c q) (.fin t d p))))) := by
  have hb : (FP.Core.sumUnits s c q t d p (min q p)).natAbs < 2 ^ (54 + (m - min q p).toNat) := by
    unfold FP.Core.sumUnits
    have g1 := f_un (e := min q p) hc hq (by omega)
    have g2 := f_un (e := min q p) hd hp (by omega)
    have g3 := f_sg s t (FP.Core.inUnits c q (min q p)) (FP.Core.inUnits d p (min q p))
    have g4 : (2 : Nat) ^ (54 + (m - min q p).toNat) = 2 ^ (53 + (m - min q p).toNat) + 2 ^ (53 + (m - min q p).toNat) := by
      rw [show 54 + (m - min q p).toNat = (53 + (m - min q p).toNat) + 1 by omega, Nat.pow_succ]
      omega
    omega
  obtain ⟨u, e, w, c1, c2, c3, c4⟩ := f_rd (FP.Core.sumSign s t (FP.Core.sumUnits s c q t d p (min q p))) _ (min q p) (m := m + 2) hb (by omega) (by omega) (by omega)
  show f_ok (m + 2) (UInt64.ofNat (FP.Core.encode FP.Core.b64 (FP.Core.round FP.Core.b64 (.fin (FP.Core.sumSign s t (FP.Core.sumUnits s c q t d p (min q p))) (FP.Core.sumUnits s c q t d p (min q p)).natAbs (min q p)))))
  rw [c1]
  exact (f_enc c2 c3 (by omega)).mono c4
theorem f_add {x y : UInt64} {m : Int} (hx : f_ok m x) (hy : f_ok m y) (h1 : -1075 ≤ m) (h2 : m ≤ 969) : f_ok (m + 2) (FP.dadd x y) := by
  obtain ⟨s, c, q, a1, a2, a3⟩ := hx
  obtain ⟨t, d, p, b1, b2, b3⟩ := hy
  show f_ok (m + 2) (UInt64.ofNat (FP.Core.encode FP.Core.b64 (FP.Core.round FP.Core.b64 (FP.Core.exactSum (FP.Core.decode FP.Core.b64 x.toNat) (FP.Core.decode FP.Core.b64 y.toNat)))))
  rw [a1, b1]
  exact f_sum a2 b2 a3 b3 h1 h2
def f_okb (x : UInt64) : Bool := match FP.Core.decode FP.Core.b64 x.toNat with
  | .fin _ c q => decide (c < 2 ^ 53) && decide (q ≤ -52)
  | _ => false
theorem f_okb_ok {x : UInt64} (h : f_okb x = true) : f_ok (-52) x := by
  unfold f_okb at h
  split at h
  · rename_i s c q e
    rw [Bool.and_eq_true, decide_eq_true_eq, decide_eq_true_eq] at h
    exact ⟨s, c, q, e, h.1, h.2⟩
  · cases h
/-- a percentage as a chance -/
def f_pc (x : Int32) : UInt64 := FP.ddiv (FP.i2d x) 4636737291354636288
theorem f_pcb : ∀ p, p < 101 → f_okb (f_pc (Int32.ofNat p)) = true ∧ f_okb (FP.dsub FP.dconst1 (f_pc (Int32.ofNat p))) = true := by decide +kernel
theorem f_pc_ok {p : Nat} (h : p ≤ 100) : f_ok (-52) (f_pc (Int32.ofNat p)) ∧ f_ok (-52) (FP.dsub FP.dconst1 (f_pc (Int32.ofNat p))) :=
  ⟨f_okb_ok (f_pcb p (by omega)).1, f_okb_ok (f_pcb p (by omega)).2⟩
theorem f_01 : f_ok (-52) FP.dconst0 ∧ f_ok (-52) FP.dconst1 := ⟨f_okb_ok (by decide +kernel), f_okb_ok (by decide +kernel)⟩
/-- equal, if no NaN -/
theorem f_cmp {m : Int} {x : UInt64} (h : f_ok m x) : FP.dcmp x x = some .eq := by
  obtain ⟨s, c, q, h1, -, -⟩ := h
  show FP.Core.order (FP.Core.decode FP.Core.b64 x.toNat) (FP.Core.decode FP.Core.b64 x.toNat) = _
  rw [h1]
  show some (compare _ _) = _
  rw [show ∀ a : Int, compare a a = .eq from fun a => by simp]
/-! the chance of a node, by m steps down -/
def g_ch (g : a_Gr) (P : Nat → UInt64) : Nat → Nat → UInt64
  | 0, k => if k = 1 then FP.dconst1 else FP.dconst0
  | m + 1, k => if k < 2 then (if k = 1 then FP.dconst1 else FP.dconst0) else FP.dadd (FP.dmul (FP.dsub FP.dconst1 (P (gL g k))) (g_ch g P m (gO g k))) (FP.dmul (P (gL g k)) (g_ch g P m (gH g k)))
theorem g_ch_lf (g : a_Gr) (P : Nat → UInt64) (m k : Nat) (h : k < 2) : g_ch g P m k = if k = 1 then FP.dconst1 else FP.dconst0 := by
  cases m with
  | zero => rfl
  | succ m => exact if_pos h
theorem g_ch_in (g : a_Gr) (P : Nat → UInt64) (m k : Nat) (h : 2 ≤ k) : g_ch g P (m + 1) k = FP.dadd (FP.dmul (FP.dsub FP.dconst1 (P (gL g k))) (g_ch g P m (gO g k))) (FP.dmul (P (gL g k)) (g_ch g P m (gH g k))) := if_neg (by omega)
def f_P (P : Nat → UInt64) (nv : Nat) : Prop := ∀ l, l < nv → f_ok (-52) (P l) ∧ f_ok (-52) (FP.dsub FP.dconst1 (P l))
theorem g_ch_ok {nv : Nat} {g : a_Gr} {P : Nat → UInt64} (hg : gW nv g) (hP : f_P P nv) : ∀ m k, k < gN g → m ≤ 8 → nv ≤ gL g k + m → f_ok (-52 + 4 * (m : Int)) (g_ch g P m k)
  | 0, k, _, _, _ => by
    unfold g_ch
    split
    · exact f_01.2
    · exact f_01.1
  | m + 1, k, hk, hm, hl => by
    by_cases h2 : k < 2
    · rw [g_ch_lf _ _ _ _ h2]
      split
      · exact f_01.2.mono (by omega)
      · exact f_01.1.mono (by omega)
    · have h2 : 2 ≤ k := by omega
      obtain ⟨q1, q2, q3, q4, q5⟩ := hg.2.2.2.2 k h2 hk
      have i1 := g_ch_ok hg hP m _ q2 (by omega) (by omega)
      have i2 := g_ch_ok hg hP m _ q3 (by omega) (by omega)
      obtain ⟨p1, p2⟩ := hP _ q1
      rw [g_ch_in _ _ _ _ h2]
      have m1 := f_mul p2 i1 (r := -52 + 4 * (m : Int) + 2) (by omega) (by omega) (by omega)
      have m2 := f_mul p1 i2 (r := -52 + 4 * (m : Int) + 2) (by omega) (by omega) (by omega)
      exact (f_add m1 m2 (by omega) (by omega)).mono (by omega)
/-- what is asked of the numbers on the way -/
theorem g_ch_nn {nv : Nat} {g : a_Gr} {P : Nat → UInt64} (hg : gW nv g) (hP : f_P P nv) {m k : Nat} (h2 : 2 ≤ k) (hk : k < gN g) (hm : m < 8) (hl : nv ≤ gL g k + (m + 1)) : FP.dmul (FP.dsub FP.dconst1 (P (gL g k))) (g_ch g P m (gO g k)) &&& 0x7fffffffffffffff ≤ 0x7ff0000000000000 ∧ FP.dmul (P (gL g k)) (g_ch g P m (gH g k)) &&& 0x7fffffffffffffff ≤ 0x7ff0000000000000 ∧ FP.dadd (FP.dmul (FP.dsub FP.dconst1 (P (gL g k))) (g_ch g P m (gO g k))) (FP.dmul (P (gL g k)) (g_ch g P m (gH g k))) &&& 0x7fffffffffffffff ≤ 0x7ff0000000000000 := by
  obtain ⟨q1, q2, q3, q4, q5⟩ := hg.2.2.2.2 k h2 hk
  have i1 := g_ch_ok hg hP m _ q2 (by omega) (by omega)
  have i2 := g_ch_ok hg hP m _ q3 (by omega) (by omega)
  obtain ⟨p1, p2⟩ := hP _ q1
  have m1 := f_mul p2 i1 (r := -52 + 4 * (m : Int) + 2) (by omega) (by omega) (by omega)
  have m2 := f_mul p1 i2 (r := -52 + 4 * (m : Int) + 2) (by omega) (by omega) (by omega)
  exact ⟨m1.nn, m2.nn, (f_add m1 m2 (by omega) (by omega)).nn⟩
