/-! THE LAW: isTrue -/
theorem tz_bi (b : Bool) : (tz_1 b).toInt32 = if b then 1 else 0 := by cases b <;> decide
section TR
variable {scr : Nat × (Nat → Int32)} {t : List mg_S} {S : a_S} {n : Nat}
theorem t213b (d : Nat) {f : Nat} (hf : f < aF (sA S)) {e4 e5 : Option Value} : ∀ (m k : Nat) (G : mg_G) (e5 : Option Value), k + m = 2 ^ n → lR n G S → mg_wp (mg_KT scr n t) mc_213 (d + 21) 101 [some (.ref 0), some (.ref 148), some (.int (Int32.ofNat f)), some (.int (Int32.ofNat (aR (sA S) f))), some (.int (Int32.ofNat k)), e5] [] G (fun o q G' => o = .inl (some (.int 1)) ∧ q ≤ 34 * m ∧ lR n G' S) := by
  intro m
  induction m with
  | zero =>
    intro k G e5 hk hR
    have hn := hR.2.2.1
    obtain rfl : k = 2 ^ n := by omega
    refine mg_go [] 40 101 ms_213 ?_
    refine ⟨_, mg_Fs rfl rfl, ?_⟩
    exact ⟨fun _ => ⟨Or.inr rfl, rfl, Nat.zero_le _, hR⟩, fun h => absurd h (tz_lt hn)⟩
  | succ m ih =>
    intro k G e5 hk hR
    have hn := hR.2.2.1
    have hp := tt_pw hn
    have hT := hR.1
    have hv := hR.2.2.2.1.1
    have hw := hR.2.1.2.2.2.2.1 f hf
    have h1 := c115 (scr := scr) (t := shT n ++ t) (d + 1) hT (Int32.ofNat f) (Int32.ofNat k)
    rw [tq_vl hf hT.f12 (by rw [hv]; omega) hT.v8] at h1
    have hb : (((G.2.1 149 f).toUInt64 >>> ((Int32.ofNat k).toInt64.toUInt64 &&& Int64.toUInt64 63)).toInt64 &&& 1).toInt32 = a_atI (aT (sA S) f) k := by
      rw [hw, tz_ct k (by omega), tz_rd _ (by omega), tt_b hn _ (by omega), decide_eq_true (show k < 2 ^ n by omega), Bool.true_and, tz_bi]
      rfl
    refine mg_go [101] 40 101 ms_213 ?_
    refine ⟨_, mg_Fs rfl rfl, ?_⟩
    refine ⟨fun h => absurd h (tz_ge hn (show k < 2 ^ n by omega)), fun _ => ?_⟩
    refine ⟨_, mg_Fs rfl rfl, 12, _, f, mg_Al rfl (by decide), mg_ixN (by have := hT.f12; omega), by have := hT.f12; omega, ?_⟩
    refine ⟨Or.inr ⟨_, rfl⟩, ?_⟩
    refine cA_go h1 (by omega) ?_
    intro q1 G1 hq1 hT1 hF1
    have hR1 := hR.go hT1 hF1
    refine ⟨fun h => absurd hb.symm h, fun _ => ?_⟩
    refine ⟨Or.inl rfl, ?_⟩
    refine mg_m_mono (t212 (scr := scr) (t := shT n ++ t) d hT1 (by rw [hv]; unfold tt_n at hn; omega) (show k < 32 by omega) ((th_cl hT1).2 f hf)) (by omega) ?_
    rintro o q2 G2 ⟨rfl, hq2, hT2, hF2⟩
    refine ⟨fun _ => ?_, fun h => absurd hb.symm h⟩
    refine mg_wp_mono (mg_wp_L (ih (k + 1) G2 _ (by omega) (hR1.go hT2 hF2)) (by rw [← mg_inc k])) ?_
    rintro o q G3 ⟨rfl, g1, g2⟩
    exact ⟨rfl, by omega, g2⟩
theorem t213a (d : Nat) {f : Nat} (hf : f < aF (sA S)) : ∀ (m k : Nat) (G : mg_G) (e4 e5 : Option Value), k + m = aF (sA S) → lR n G S → mg_wp (mg_KT scr n t) mc_213 (d + 21) 16 [some (.ref 0), some (.ref 148), some (.int (Int32.ofNat f)), some (.int (Int32.ofNat k)), e4, e5] [] G (fun o q G' => o = .inl (some (.int 1)) ∧ q ≤ 6 * m + 1200 ∧ lR n G' S) := by
  intro m
  induction m with
  | zero =>
    intro k G e4 e5 hk hR
    have hT := hR.1
    have hp := tt_pw hR.2.2.1
    obtain rfl : k = aF (sA S) := by omega
    have h1 := c112 (scr := scr) (t := shT n ++ t) (d + 1) hT (Int32.ofNat f) (Int32.ofInt 0)
    rw [tq_rt hf hT.f12] at h1
    refine mg_go [101] 40 16 ms_213 ?_
    refine ⟨_, mg_Fe hR.2.1.1 rfl rfl, ?_⟩
    refine ⟨fun _ => ?_, fun h => absurd h Int32.lt_irrefl⟩
    refine ⟨Or.inr ⟨_, rfl⟩, ?_⟩
    refine cA_go h1 (by omega) ?_
    intro q1 G1 hq1 hT1 hF1
    refine mg_wp_mono (t213b (scr := scr) (t := t) d hf (e4 := none) (e5 := none) (2 ^ n) 0 G1 _ (Nat.zero_add _) (hR.go hT1 hF1)) ?_
    rintro o q G3 ⟨rfl, g1, g2⟩
    exact ⟨rfl, by omega, g2⟩
  | succ m ih =>
    intro k G e4 e5 hk hR
    have hT := hR.1
    have hk2 : k < aF (sA S) := by omega
    have h12 := hT.f12
    have h1 := c112 (scr := scr) (t := shT n ++ t) (d + 1) hT (Int32.ofNat f) (Int32.ofInt 0)
    rw [tq_rt hf h12] at h1
    refine mg_go [16] 40 16 ms_213 ?_
    refine ⟨_, mg_Fe hR.2.1.1 rfl rfl, ?_⟩
    refine ⟨fun h => absurd h (mg_nle hk2 (by omega)), fun _ => ?_⟩
    refine ⟨_, mg_Fs rfl rfl, 12, _, f, mg_Al rfl (by decide), mg_ixN (by omega), by omega, ?_⟩
    refine ⟨_, mg_Fs rfl rfl, 12, _, k, mg_Al rfl (by decide), mg_ixN (by omega), by omega, ?_⟩
    have hiff : G.2.1 149 f = G.2.1 149 k ↔ aT (sA S) f = aT (sA S) k := by
      rw [hR.2.1.2.2.2.2.1 f hf, hR.2.1.2.2.2.2.1 k hk2]
      exact tt_inj hR.2.2.1 (hR.p hf) (hR.p hk2)
    have fin : ∀ (x4 : Value) (x5 : Option Value) (G3 : mg_G) (q3 : Nat), q3 ≤ 6 → lR n G3 S → mg_wp (mg_KT scr n t) mc_213 (d + 21) 16 [some (.ref 0), some (.ref 148), some (.int (Int32.ofNat f)), some (.int (Int32.ofNat (k + 1))), some x4, x5] [] G3 (fun o q G' => o = .inl (some (.int 1)) ∧ q + q3 ≤ 6 * (m + 1) + 1200 ∧ lR n G' S) := by
      intro x4 x5 G3 q3 hq3 hR3
      refine mg_wp_mono (ih (k + 1) G3 _ _ (by omega) hR3) ?_
      rintro o q G4 ⟨rfl, g1, g2⟩
      exact ⟨rfl, by omega, g2⟩
    refine ⟨fun h => ?_, fun h => ?_⟩
    · have hne : ¬ aT (sA S) f = aT (sA S) k := fun q => h ((lg_cmp_eq _ _).mpr (hiff.mpr q))
      refine ⟨Or.inr ⟨_, rfl⟩, ?_⟩
      refine cA_go h1 (by omega) ?_
      intro q1 G1 hq1 hT1 hF1
      have hR1 := hR.go hT1 hF1
      have h2 := c112 (scr := scr) (t := shT n ++ t) (d + 1) hT1 (Int32.ofNat k) (Int32.ofInt 0)
      rw [tq_rt hk2 h12] at h2
      refine ⟨Or.inr ⟨_, rfl⟩, ?_⟩
      refine cA_go h2 (by omega) ?_
      intro q2 G2 hq2 hT2 hF2
      have hR2 := hR1.go hT2 hF2
      have hr1 := a_nd_lt ((th_cl hT2).2 f hf)
      have hr2 := a_nd_lt ((th_cl hT2).2 k hk2)
      have hN := hT2.2.1.N
      have h3 := c126 (scr := scr) (t := shT n ++ t) (d + 1) hT2 (Int32.ofNat f) (Int32.ofNat k)
      rw [tq_sm hf hk2 h12, if_neg hne] at h3
      refine ⟨fun _ => ?_, fun h9 => absurd ((th_rt hT2 hf hk2).mp ((mg_eqN (by omega) (by omega)).mp h9)) hne⟩
      refine ⟨fun h9 => absurd rfl h9, fun _ => ?_⟩
      refine ⟨Or.inr ⟨_, rfl⟩, ?_⟩
      refine cA_go h3 (by omega) ?_
      intro q3 G3 hq3 hT3 hF3
      refine ⟨fun _ => ?_, fun h9 => absurd rfl h9⟩
      refine mg_wp_mono (mg_wp_L (fin _ _ G3 (q3 + q2 + q1) (by omega) (hR2.go hT3 hF3)) (by rw [← mg_inc k])) ?_
      rintro o q G4 ⟨rfl, g1, g2⟩
      exact ⟨rfl, by omega, g2⟩
    · have he : aT (sA S) f = aT (sA S) k := hiff.mp ((lg_cmp_eq _ _).mp h)
      refine ⟨Or.inr ⟨_, rfl⟩, ?_⟩
      refine cA_go h1 (by omega) ?_
      intro q1 G1 hq1 hT1 hF1
      have hR1 := hR.go hT1 hF1
      have h2 := c112 (scr := scr) (t := shT n ++ t) (d + 1) hT1 (Int32.ofNat k) (Int32.ofInt 0)
      rw [tq_rt hk2 h12] at h2
      refine ⟨Or.inr ⟨_, rfl⟩, ?_⟩
      refine cA_go h2 (by omega) ?_
      intro q2 G2 hq2 hT2 hF2
      have hR2 := hR1.go hT2 hF2
      have h3 := c126 (scr := scr) (t := shT n ++ t) (d + 1) hT2 (Int32.ofNat f) (Int32.ofNat k)
      rw [tq_sm hf hk2 h12, if_pos he] at h3
      refine ⟨fun h9 => absurd (by rw [(th_rt hT2 hf hk2).mpr he]) h9, fun _ => ?_⟩
      refine ⟨fun h9 => absurd rfl h9, fun _ => ?_⟩
      refine ⟨Or.inr ⟨_, rfl⟩, ?_⟩
      refine cA_go h3 (by omega) ?_
      intro q3 G3 hq3 hT3 hF3
      refine ⟨fun _ => ?_, fun h9 => absurd rfl h9⟩
      refine mg_wp_mono (mg_wp_L (fin _ _ G3 (q3 + q2 + q1) (by omega) (hR2.go hT3 hF3)) (by rw [← mg_inc k])) ?_
      rintro o q G4 ⟨rfl, g1, g2⟩
      exact ⟨rfl, by omega, g2⟩
theorem t213 (d : Nat) {G : mg_G} (hR : lR n G S) {f : Nat} (hf : f < aF (sA S)) : mg_m (mg_KT scr n t) (d + 22) 213 [.ref 0, .ref 148, .int (Int32.ofNat f)] G (fun o q G' => o = .inl (some (.int 1)) ∧ q ≤ 1300 ∧ lR n G' S) := by
  have hT := hR.1
  have h12 := hT.f12
  have h1 := c109 (scr := scr) (t := shT n ++ t) (d + 1) hT (Int32.ofInt 1)
  rw [tq_1] at h1
  refine mg_me [16] 20 my_213 ms_213 (Nat.le_of_ble_eq_true rfl) ?_
  refine ⟨Or.inr ⟨_, rfl⟩, ?_⟩
  refine cA_go h1 (by omega) ?_
  intro q1 G1 hq1 hT1 hF1
  have hR1 := hR.go hT1 hF1
  refine ⟨_, mg_Fe hR1.2.1.1 rfl rfl, ?_⟩
  refine ⟨fun _ => ?_, fun h9 => absurd rfl h9⟩
  refine mg_wp_mono (t213a (scr := scr) (t := t) d hf (aF (sA S)) 0 G1 _ _ (Nat.zero_add _) hR1) ?_
  rintro o q G4 ⟨rfl, g1, g2⟩
  exact ⟨rfl, by omega, g2⟩
end TR
