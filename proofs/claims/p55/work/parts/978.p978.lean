/-! THE LAW: act, the rest -/
theorem tR.A {n : Nat} {G : mg_G} {A B : a_A} {U : List a_A} (h : tR n G A U) (e1 : aF B = aF A) (e2 : aT B = aT A) : tR n G B U := by
  unfold tR at h ⊢
  rw [e1, e2]
  exact h
/-- a change of the order: what the law rests on behind it -/
theorem lR_ord {n : Nat} {G G1 G2 : mg_G} {S : a_S} {B : a_A} (h : lR n G S) (hR : tR n G1 (sA S) (a_push (sU S) (sA S))) (e0 : aV B = aV (sA S)) (e1 : aF B = aF (sA S)) (e2 : aT B = aT (sA S)) (hT : cT G2 (pCh S B).1) (hF : cFr148 G1 G2) : lR n G2 (pCh S B).1 :=
  ⟨hT, (hR.A e1 e2).fr hF (fun a ha => by show ¬ a < 148; omega), h.2.2.1, ⟨e0.trans h.2.2.2.1.1, by have := h.2.2.2.1.2; show 1 ≤ aF B; omega⟩, lR_push h.2.2.2.2 h.2.2.2.1⟩
theorem a_sfs_F (A : a_A) (f : Nat → Int32) : ∀ k, aF (a_sfs A f k) = aF A ∧ aT (a_sfs A f k) = aT A
  | 0 => ⟨rfl, rfl⟩
  | k + 1 => a_sfs_F A f k
section TR
variable {scr : Nat × (Nat → Int32)} {t : List mg_S} {S : a_S} {n : Nat} {G : mg_G} {f g z : Nat} {e2 e7 : Option Value}
theorem t211_6 (d : Nat) (hR : lR n G S) (hf : f < aF (sA S)) : mg_wp (mg_KT scr n t) mc_211 (d + 22) 453 (lL n S f g z e2 e7) [] G (lQ n) := by
  obtain ⟨hT, hU, hn, hA, hB⟩ := id hR
  have h12 := hT.f12
  by_cases h1 : aF (sA S) = 1
  · refine mg_go [] 20 453 ms_211 ?_
    refine ⟨_, mg_Fe hU.1 rfl rfl, ?_⟩
    refine ⟨fun _ => ⟨Or.inr rfl, rfl, by decide, _, hR⟩, fun h => absurd ((mg_ltN (a := 1) (by decide) (by omega)).mp h) (by omega)⟩
  · refine mg_go [468] 40 453 ms_211 ?_
    refine ⟨_, mg_Fe hU.1 rfl rfl, ?_⟩
    refine ⟨fun h => absurd ((mg_leN (b := 1) (by omega) (by decide)).mp h) (by have := hA.2; omega), fun _ => ?_⟩
    refine ⟨Or.inr ⟨_, rfl⟩, ?_⟩
    refine mg_m_mono (t179 (scr := scr) (t := t) d hU) (by omega) ?_
    rintro o q G1 ⟨rfl, rfl, hR1, hF1⟩
    obtain ⟨r1, r2, r3, r4, r5, r6⟩ := id hR1
    refine mg_loop (aF (sA S) - 1 - f) (fun k L G' => L = [some (.ref 0), some (.ref 148), e2, some (.int (Int32.ofNat f)), some (.int (Int32.ofNat g)), some (.int (Int32.ofNat z)), some (.int (Int32.ofNat (z % n))), e7, some (.long (tt n (aT (sA S) f))), none, some (.long (tt n (aT (sA S) g))), none, some (.int (Int32.ofNat (f + k))), none, none, none, none] ∧ tJ 149 G1 G' ∧ (∀ i, f ≤ i → i < f + k → G'.2.1 149 i = G1.2.1 149 (i + 1)) ∧ ∀ i, i < f ∨ f + k ≤ i → G'.2.1 149 i = G1.2.1 149 i) ?_ ?_ _ _ ⟨rfl, tJ.rf _ _, fun i h1 h2 => absurd h2 (by omega), fun _ _ => rfl⟩
    · rintro k L G' hk ⟨rfl, g1, g2, g3⟩ ih
      have e3 : G'.2.2.2.2 148 3 = .int (Int32.ofNat (aF (sA S))) := by rw [g1.2.2]; exact r1
      refine mg_go [468] 40 468 ms_211 ?_
      refine ⟨_, mg_Fe e3 rfl rfl, ?_⟩
      refine ⟨fun h => absurd (show Int32.ofNat (aF (sA S)) ≤ Int32.ofNat (f + k) + Int32.ofInt 1 from h) (by rw [mg_inc]; exact mg_nle (show f + k + 1 < aF (sA S) by omega) (by omega)), fun _ => ?_⟩
      refine ⟨_, mg_Fs rfl rfl, _, mg_Fs rfl rfl, 12, _, f + k + 1, mg_Al rfl (by decide), mg_ixE (mg_inc _) (by omega), by omega, ?_⟩
      refine ⟨12, f + k, rfl, mg_ixN (by omega), by omega, ?_⟩
      refine ih _ _ ⟨by rw [show f + (k + 1) = f + k + 1 by omega, ← mg_inc (f + k)], g1.s _ _, fun i h1 h2 => ?_, fun i hi => ?_⟩
      · show mg_u2 G'.2.1 149 (f + k) (G'.2.1 149 (f + k + 1)) 149 i = _
        rw [mg_u2_at, g3 (f + k + 1) (by omega)]
        by_cases e9 : i = f + k
        · subst e9
          rw [if_pos ⟨rfl, rfl⟩]
        · rw [if_neg (by omega)]
          exact g2 i h1 (by omega)
      · show mg_u2 G'.2.1 149 (f + k) (G'.2.1 149 (f + k + 1)) 149 i = _
        rw [mg_u2_at, if_neg (by omega)]
        exact g3 i (by omega)
    · rintro L G' ⟨rfl, g1, g2, g3⟩
      have ek : f + (aF (sA S) - 1 - f) = aF (sA S) - 1 := by omega
      rw [ek] at g2 g3
      have e3 : G'.2.2.2.2 148 3 = .int (Int32.ofNat (aF (sA S))) := by rw [g1.2.2]; exact r1
      have e6 : G'.2.2.2.2 148 6 = .int (Int32.ofNat (a_push (sU S) (sA S)).length) := by rw [g1.2.2]; exact r3
      have hs : Int32.ofNat (aF (sA S)) - Int32.ofInt 1 = Int32.ofNat (aF (sA S) - 1) := mg_subN (b := 1) (by omega)
      have hR2 : tR n (mg_sF G' 148 3 (.int (Int32.ofNat (aF (sA S)) - Int32.ofInt 1))) (remF (sA S) f) (a_push (sU S) (sA S)) := by
        refine ⟨(mg_sF_at _ _ _ _).trans (congrArg Value.int hs), by show aF (sA S) - 1 ≤ 12; omega, (mg_sF_ne _ _ (by decide)).trans e6, r4, fun i hi => ?_, fun i C hi => ?_⟩
        · have hi : i < aF (sA S) - 1 := hi
          show G'.2.1 149 i = tt n (if f ≤ i then aT (sA S) (i + 1) else aT (sA S) i)
          by_cases h9 : f ≤ i
          · rw [if_pos h9, g2 i h9 (by omega)]
            exact r5 (i + 1) (by omega)
          · rw [if_neg h9, g3 i (by omega)]
            exact r5 i (by omega)
        · obtain ⟨q1, q2, q3⟩ := r6 i C hi
          refine ⟨q1, ?_, fun f hf => ?_⟩
          · show G'.1 151 i = _
            rw [g1.1]
            exact q2
          · show G'.2.1 150 (12 * i + f) = _
            rw [g1.2.1 150 (by decide)]
            exact q3 f hf
      have hF2 : tFr G (mg_sF G' 148 3 (.int (Int32.ofNat (aF (sA S)) - Int32.ofInt 1))) := (hF1.tr (g1.fr.mono (fun a ha => by omega))).tr (mg_fr.sF _ _ _ (show (fun b => b = 148 ∨ b = 149 ∨ b = 150 ∨ b = 151) 148 by omega))
      have hd := th_dr hT hf
      have hN := hT.2.1.N
      have h3 : mg_m (mg_KC scr (shT n ++ t)) (d + 20) 142 [.ref 0, .int (Int32.ofNat f)] (mg_sF G' 148 3 (.int (Int32.ofNat (aF (sA S)) - Int32.ofInt 1))) (cA (mg_sF G' 148 3 (.int (Int32.ofNat (aF (sA S)) - Int32.ofInt 1))) (ex1 xI) (remF (sA S) f, a_push (sU S) (sA S), S.2.2) (0, Int32.ofNat ((aN (sA S)).length - (aN (remF (sA S) f)).length))) := by
        have h := c142 (scr := scr) (t := shT n ++ t) d (hT.cT hF2) (Int32.ofNat f)
        have e : p314 S (Int32.ofNat f) = ((remF (sA S) f, a_push (sU S) (sA S), S.2.2), (0, Int32.ofNat ((aN (sA S)).length - (aN (remF (sA S) f)).length))) := by
          unfold p314
          rw [pF_y (vi_of hf (by omega)), mg_subN hd]
        unfold cAp at h
        rw [e] at h
        exact h
      refine mg_go [] 40 468 ms_211 ?_
      refine ⟨_, mg_Fe e3 rfl rfl, ?_⟩
      refine ⟨fun _ => ?_, fun h => absurd (show Int32.ofNat (f + (aF (sA S) - 1 - f)) + Int32.ofInt 1 < Int32.ofNat (aF (sA S)) from h) (by rw [ek, mg_inc]; exact mg_nlt (show aF (sA S) ≤ aF (sA S) - 1 + 1 by omega) (by omega))⟩
      refine ⟨_, mg_Fe e3 rfl rfl, rfl, _, rfl, rfl, ?_⟩
      refine ⟨Or.inr ⟨_, rfl⟩, ?_⟩
      refine cA_go h3 (by omega) ?_
      intro q2 G2 hq2 hT2 hF3
      refine ⟨fun _ => ⟨Or.inr rfl, rfl, by omega, _, hT2, hR2.fr hF3 (fun a ha => by show ¬ a < 148; omega), hn, ⟨hA.1, by show 1 ≤ aF (sA S) - 1; have := hA.2; omega⟩, lR_push hB hA⟩, fun h => absurd h ?_⟩
      exact Int32.not_lt.mpr ((mg_leN (a := 0) (by decide) (by omega)).mpr (Nat.zero_le _))
set_option maxRecDepth 20000 in
theorem t211_7 (d : Nat) (hR : lR n G S) (hz : z < 4096) : mg_wp (mg_KT scr n t) mc_211 (d + 22) 523 (lL n S f g z e2 e7) [] G (lQ n) := by
  obtain ⟨hT, hU, hn, hA, hB⟩ := id hR
  obtain ⟨j, hj⟩ : ∃ j, j = z % (n - 1) := ⟨_, rfl⟩
  have hn3 : 3 ≤ n ∧ n ≤ 5 := by unfold tt_n at hn; omega
  have hj6 : j < n - 1 := by rw [hj]; exact Nat.mod_lt _ (by omega)
  have e1 : Int32.ofNat n - Int32.ofInt 1 = Int32.ofNat (n - 1) := mg_subN (b := 1) (by omega)
  have eE : Int32.ofNat z - Int32.ofNat z / (Int32.ofNat n - Int32.ofInt 1) * (Int32.ofNat n - Int32.ofInt 1) = Int32.ofNat j := by
    rw [e1, hj]
    exact tz_rem (by omega) (by omega) (by omega)
  have n0 : ¬ Int32.ofNat n - Int32.ofInt 1 = 0 := by
    rw [e1]
    exact fun q => absurd ((mg_eqN (b := 0) (by omega) (by decide)).mp q) (by omega)
  refine mg_go [536] 60 523 ms_211 ?_
  refine ⟨Or.inr ⟨_, rfl⟩, ?_⟩
  refine mg_m_mono (t179 (scr := scr) (t := t) (d + 20) hU) (by omega) ?_
  rintro o q G1 ⟨rfl, rfl, hR1, hF1⟩
  have h3 : mg_m (mg_KC scr (shT n ++ t)) (d + 20) 143 [.ref 0, .int (Int32.ofNat z - Int32.ofNat z / (Int32.ofNat n - Int32.ofInt 1) * (Int32.ofNat n - Int32.ofInt 1))] G1 (cA G1 (ex1 xI) (pCh S (setD (sA S) (a_mv (aD (sA S)) j (j + 1)))).1 (0, Int32.ofNat (aN (setD (sA S) (a_mv (aD (sA S)) j (j + 1)))).length)) := by
    rw [eE]
    have h := c143 (scr := scr) (t := shT n ++ t) d (hT.cT hF1) (Int32.ofNat j)
    have e : p315 S (Int32.ofNat j) = pCh S (setD (sA S) (a_mv (aD (sA S)) j (j + 1))) := by
      unfold p315
      rw [vi_of (by rw [hA.1]; exact hj6) (by omega)]
    unfold cAp at h
    rw [e] at h
    exact h
  refine ⟨_, mg_Fs rfl rfl, ?_⟩
  refine mg_dds rfl (if_neg n0) ?_
  refine mg_go [] 60 537 ms_211 ?_
  refine ⟨Or.inr ⟨_, rfl⟩, ?_⟩
  refine cA_go h3 (by omega) ?_
  intro q2 G2 hq2 hT2 hF2
  have hR2 := lR_ord (B := setD (sA S) (a_mv (aD (sA S)) j (j + 1))) hR hR1 rfl rfl rfl hT2 hF2
  have h4 := c109 (scr := scr) (t := shT n ++ t) d hT2 (Int32.ofInt 2)
  rw [tq_2] at h4
  refine ⟨Or.inr ⟨_, rfl⟩, ?_⟩
  refine cA_go h4 (by omega) ?_
  intro q3 G3 hq3 hT3 hF3
  refine ⟨fun h => absurd rfl h, fun _ => ?_⟩
  exact ⟨Or.inr rfl, rfl, by omega, _, hR2.go hT3 hF3⟩
set_option maxRecDepth 20000 in
theorem t211_8 (d : Nat) (hR : lR n G S) (hz : z < 4096) : mg_wp (mg_KT scr n t) mc_211 (d + 22) 554 (lL n S f g z e2 e7) [] G (lQ n) := by
  obtain ⟨hT, hU, hn, hA, hB⟩ := id hR
  obtain ⟨j, hj⟩ : ∃ j, j = z / 8 % n := ⟨_, rfl⟩
  have hn3 : 3 ≤ n ∧ n ≤ 5 := by unfold tt_n at hn; omega
  have hj6 : j < n := by rw [hj]; exact Nat.mod_lt _ (by omega)
  have hv : z % n < n := Nat.mod_lt _ (by omega)
  have eE : Int32.ofNat z / (Int8.ofInt 8).toInt32 - Int32.ofNat z / (Int8.ofInt 8).toInt32 / Int32.ofNat n * Int32.ofNat n = Int32.ofNat j := by
    rw [tz_8 (by omega), hj]
    exact tz_rem (by omega) (by omega) (by omega)
  have n0 : ¬ Int32.ofNat n = 0 := fun q => absurd ((mg_eqN (b := 0) (by omega) (by decide)).mp q) (by omega)
  refine mg_go [570] 60 554 ms_211 ?_
  refine ⟨Or.inr ⟨_, rfl⟩, ?_⟩
  refine mg_m_mono (t179 (scr := scr) (t := t) (d + 20) hU) (by omega) ?_
  rintro o q G1 ⟨rfl, rfl, hR1, hF1⟩
  have h3 : mg_m (mg_KC scr (shT n ++ t)) (d + 20) 144 [.ref 0, .int (Int32.ofNat (z % n)), .int (Int32.ofNat z / (Int8.ofInt 8).toInt32 - Int32.ofNat z / (Int8.ofInt 8).toInt32 / Int32.ofNat n * Int32.ofNat n)] G1 (cA G1 (ex1 xI) (pCh S (a_shf (sA S) (z % n) j)).1 (0, Int32.ofNat (aN (a_shf (sA S) (z % n) j)).length)) := by
    rw [eE]
    have h := c144 (scr := scr) (t := shT n ++ t) d (hT.cT hF1) (Int32.ofNat (z % n)) (Int32.ofNat j)
    have e : p316 S (Int32.ofNat (z % n)) (Int32.ofNat j) = pCh S (a_shf (sA S) (z % n) j) := by
      unfold p316
      rw [pV_y (vi_of (by rw [hA.1]; exact hv) (by have := hT.v8; omega)), pV_y (vi_of (by rw [hA.1]; exact hj6) (by have := hT.v8; omega))]
    unfold cAp at h
    rw [e] at h
    exact h
  refine ⟨_, mg_Fs rfl rfl, ?_⟩
  refine mg_dds rfl (if_neg n0) ?_
  refine mg_go [598] 60 571 ms_211 ?_
  refine ⟨Or.inr ⟨_, rfl⟩, ?_⟩
  refine cA_go h3 (by omega) ?_
  intro q2 G2 hq2 hT2 hF2
  have hR2 := lR_ord (B := a_shf (sA S) (z % n) j) hR hR1 rfl rfl rfl hT2 hF2
  have h4 := c109 (scr := scr) (t := shT n ++ t) d hT2 (Int32.ofInt 2)
  rw [tq_2] at h4
  refine ⟨Or.inr ⟨_, rfl⟩, ?_⟩
  refine cA_go h4 (by omega) ?_
  intro q3 G3 hq3 hT3 hF3
  have hR3 := hR2.go hT3 hF3
  refine ⟨fun h => absurd rfl h, fun _ => ?_⟩
  have h5 := c110 (scr := scr) (t := shT n ++ t) d hT3 (Int32.ofNat (z % n)) (Int32.ofInt 0)
  have e5 : q261 (sA (pCh S (a_shf (sA S) (z % n) j)).1) (Int32.ofNat (z % n)) (Int32.ofInt 0) = (0, Int32.ofNat j) := by
    have h := tq_lv (A := a_shf (sA S) (z % n) j) (v := z % n) (show z % n < aV (sA S) by rw [hA.1]; exact hv) hT.v8
    rw [th_mv hT.2.1 (by rw [hA.1]; exact hv) (by rw [hA.1]; exact hj6)] at h
    exact h
  rw [e5] at h5
  refine ⟨Or.inr ⟨_, rfl⟩, ?_⟩
  refine cA_go h5 (by omega) ?_
  intro q4 G4 hq4 hT4 hF4
  refine ⟨_, mg_Fs rfl rfl, ?_⟩
  refine mg_dds rfl (if_neg n0) ?_
  refine mg_go [] 60 599 ms_211 ?_
  refine ⟨fun h => absurd eE.symm h, fun _ => ?_⟩
  exact ⟨Or.inr rfl, rfl, by omega, _, hR3.go hT4 hF4⟩
theorem t211_9 (d : Nat) (hR : lR n G S) : mg_wp (mg_KT scr n t) mc_211 (d + 22) 608 (lL n S f g z e2 e7) [] G (lQ n) := by
  obtain ⟨hT, hU, hn, hA, hB⟩ := id hR
  have hv : z % n < n := Nat.mod_lt _ (by unfold tt_n at hn; omega)
  refine mg_go [] 60 608 ms_211 ?_
  refine ⟨Or.inr ⟨_, rfl⟩, ?_⟩
  refine mg_m_mono (t179 (scr := scr) (t := t) (d + 20) hU) (by omega) ?_
  rintro o q G1 ⟨rfl, rfl, hR1, hF1⟩
  have h3 : mg_m (mg_KC scr (shT n ++ t)) (d + 20) 145 [.ref 0, .int (Int32.ofNat (z % n))] G1 (cA G1 (ex1 xI) (pCh S (a_sft (sA S) (z % n))).1 (0, Int32.ofNat (aN (a_sft (sA S) (z % n))).length)) := by
    have h := c145 (scr := scr) (t := shT n ++ t) d (hT.cT hF1) (Int32.ofNat (z % n))
    have e : p317 S (Int32.ofNat (z % n)) = pCh S (a_sft (sA S) (z % n)) := by
      unfold p317
      rw [pV_y (vi_of (by rw [hA.1]; exact hv) (by have := hT.v8; omega))]
    unfold cAp at h
    rw [e] at h
    exact h
  refine ⟨Or.inr ⟨_, rfl⟩, ?_⟩
  refine cA_go h3 (by omega) ?_
  intro q2 G2 hq2 hT2 hF2
  have hR2 := lR_ord (B := a_sft (sA S) (z % n)) hR hR1 rfl rfl rfl hT2 hF2
  have h4 := c109 (scr := scr) (t := shT n ++ t) d hT2 (Int32.ofInt 2)
  rw [tq_2] at h4
  refine ⟨Or.inr ⟨_, rfl⟩, ?_⟩
  refine cA_go h4 (by omega) ?_
  intro q3 G3 hq3 hT3 hF3
  refine ⟨fun h => absurd rfl h, fun _ => ?_⟩
  exact ⟨Or.inr rfl, rfl, by omega, _, hR2.go hT3 hF3⟩
theorem t211_10 (d : Nat) (hR : lR n G S) : mg_wp (mg_KT scr n t) mc_211 (d + 22) 632 (lL n S f g z e2 e7) [] G (lQ n) := by
  obtain ⟨hT, hU, hn, hA, hB⟩ := id hR
  refine mg_go [] 60 632 ms_211 ?_
  refine ⟨Or.inr ⟨_, rfl⟩, ?_⟩
  refine mg_m_mono (t179 (scr := scr) (t := t) (d + 20) hU) (by omega) ?_
  rintro o q G1 ⟨rfl, rfl, hR1, hF1⟩
  have h3 : mg_m (mg_KC scr (shT n ++ t)) (d + 20) 146 [.ref 0] G1 (cA G1 (ex1 xI) (pCh S (a_sfa (sA S))).1 (0, Int32.ofNat (aN (a_sfa (sA S))).length)) := c146 (scr := scr) (t := shT n ++ t) d (hT.cT hF1)
  refine ⟨Or.inr ⟨_, rfl⟩, ?_⟩
  refine cA_go h3 (by omega) ?_
  intro q2 G2 hq2 hT2 hF2
  have hR2 := lR_ord (B := a_sfa (sA S)) hR hR1 (a_sfs_V _ _ _) (a_sfs_F _ _ _).1 (a_sfs_F _ _ _).2 hT2 hF2
  have h4 := c109 (scr := scr) (t := shT n ++ t) d hT2 (Int32.ofInt 2)
  rw [tq_2] at h4
  refine ⟨Or.inr ⟨_, rfl⟩, ?_⟩
  refine cA_go h4 (by omega) ?_
  intro q3 G3 hq3 hT3 hF3
  refine ⟨fun h => absurd rfl h, fun _ => ?_⟩
  exact ⟨Or.inr rfl, rfl, by omega, _, hR2.go hT3 hF3⟩
theorem t211_11 (d : Nat) (hR : lR n G S) : mg_wp (mg_KT scr n t) mc_211 (d + 22) 654 (lL n S f g z e2 e7) [] G (lQ n) := by
  obtain ⟨hT, hU, hn, hA, hB⟩ := id hR
  have h8 := hU.2.2.2.1
  by_cases h0 : (sU S).length = 0
  · refine mg_go [] 20 654 ms_211 ?_
    refine ⟨_, mg_Fe hU.2.2.1 rfl rfl, ?_⟩
    exact ⟨fun _ => ⟨Or.inr rfl, rfl, by decide, _, hR⟩, fun h => absurd ((mg_ltN (a := 0) (by decide) (by omega)).mp h) (by omega)⟩
  · obtain ⟨V, B, eU⟩ : ∃ V B, sU S = V ++ [B] := ⟨(sU S).dropLast, (sU S).getLast (fun q => h0 (by rw [q]; rfl)), (List.dropLast_concat_getLast _).symm⟩
    have hU2 := hU
    rw [eU] at hU2 hB h8
    rw [List.length_append, List.length_singleton] at h8
    have c6 := hU2.2.2.1
    rw [List.length_append, List.length_singleton] at c6
    have hBm := hB B (List.mem_append_right _ List.mem_cons_self)
    refine mg_go [] 60 654 ms_211 ?_
    refine ⟨_, mg_Fe c6 rfl rfl, ?_⟩
    refine ⟨fun h => absurd ((mg_leN (b := 0) (by omega) (by decide)).mp h) (by omega), fun _ => ?_⟩
    refine ⟨Or.inr ⟨_, rfl⟩, ?_⟩
    refine mg_m_mono (t180 (scr := scr) (t := t) (d + 20) hU2) (by omega) ?_
    rintro o q G1 ⟨rfl, rfl, hR1, hF1⟩
    have h3 : mg_m (mg_KC scr (shT n ++ t)) (d + 20) 150 [.ref 0] G1 (cA G1 (ex1 xS) (B, V, S.2.2) (0, Int32.ofNat V.length)) := by
      have h := c150 (scr := scr) (t := shT n ++ t) d (hT.cT hF1)
      have e : p321 S = ((B, V, S.2.2), (0, Int32.ofNat V.length)) := by
        unfold p321
        rw [eU, List.getLast?_concat, List.dropLast_concat, List.length_append, List.length_singleton, Nat.add_sub_cancel]
      unfold cAp at h
      rw [e] at h
      exact h
    refine ⟨Or.inr ⟨_, rfl⟩, ?_⟩
    refine cA_go h3 (by omega) ?_
    intro q2 G2 hq2 hT2 hF2
    have hR2 : lR n G2 (B, V, S.2.2) := ⟨hT2, hR1.fr hF2 (fun a ha => by show ¬ a < 148; omega), hn, hBm, fun C hC => hB C (List.mem_append_left _ hC)⟩
    refine ⟨_, mg_Fe hR2.2.1.2.2.1 rfl rfl, ?_⟩
    refine ⟨fun h => absurd rfl h, fun _ => ?_⟩
    exact ⟨Or.inr rfl, rfl, by omega, _, hR2⟩
/-- behind the choice of the operation -/
theorem t211s (d : Nat) (hR : lR n G S) {op : Nat} (ho : op < 12) (hf : f < aF (sA S)) (hg : g < aF (sA S)) (hz : z < 4096) (h6 : op < 6 → aF (sA S) < 12) {x7 : Int32} : mg_wp (mg_KT scr n t) mc_211 (d + 22) 39 [some (.ref 0), some (.ref 148), some (.int (Int32.ofNat op)), some (.int (Int32.ofNat f)), some (.int (Int32.ofNat g)), some (.int (Int32.ofNat z)), some (.int (Int32.ofNat (z % n))), some (.int x7), none, none, none, none, none, none, none, none, none] [] G (lQ n) := by
  have hU := hR.2.1
  have h12 := hR.f12
  have op_e : ∀ k : Nat, (Int32.ofNat op).toInt = (k : Int) → op = k := fun k h => by
    rw [mg_toN (by omega)] at h
    omega
  refine mg_go [116, 163, 223, 253, 310, 396, 453, 523, 554, 608, 632, 654] 30 39 ms_211 ?_
  refine ⟨_, mg_Fs rfl rfl, 12, _, f, mg_Al rfl (by decide), mg_ixN (by omega), by omega, ?_⟩
  refine ⟨_, mg_Fs rfl rfl, 12, _, g, mg_Al rfl (by decide), mg_ixN (by omega), by omega, ?_⟩
  have hLf := hU.2.2.2.2.1 f hf
  have hLg := hU.2.2.2.2.1 g hg
  refine ⟨by decide, fun h => ?_, fun h => ?_, fun h => ?_, fun h => ?_, fun h => ?_, fun h => ?_, fun h => ?_, fun h => ?_, fun h => ?_, fun h => ?_, fun h => ?_, fun h => ?_, trivial⟩
  · exact mg_wp_L (t211_11 (f := f) (g := g) (z := z) (e2 := some (.int (Int32.ofNat op))) (e7 := some (.int x7)) d hR) (by rw [lL, ← hLf, ← hLg])
  · exact mg_wp_L (t211_0 (f := f) (g := g) (z := z) (e2 := some (.int (Int32.ofNat op))) (e7 := some (.int x7)) d hR hf hg hz (h6 (by have := op_e 0 h; omega))) (by rw [lL, ← hLf, ← hLg])
  · exact mg_wp_L (t211_1 (f := f) (g := g) (z := z) (e2 := some (.int (Int32.ofNat op))) (e7 := some (.int x7)) d hR hf hg hz (h6 (by have := op_e 1 h; omega))) (by rw [lL, ← hLf, ← hLg])
  · exact mg_wp_L (t211_2 (f := f) (g := g) (z := z) (e2 := some (.int (Int32.ofNat op))) (e7 := some (.int x7)) d hR hf hz (h6 (by have := op_e 2 h; omega))) (by rw [lL, ← hLf, ← hLg])
  · exact mg_wp_L (t211_3 (f := f) (g := g) (z := z) (e2 := some (.int (Int32.ofNat op))) (e7 := some (.int x7)) d hR hf hz (h6 (by have := op_e 3 h; omega))) (by rw [lL, ← hLf, ← hLg])
  · exact mg_wp_L (t211_4 (f := f) (g := g) (z := z) (e2 := some (.int (Int32.ofNat op))) (e7 := some (.int x7)) d hR hf hz (h6 (by have := op_e 4 h; omega))) (by rw [lL, ← hLf, ← hLg])
  · exact mg_wp_L (t211_5 (f := f) (g := g) (z := z) (e2 := some (.int (Int32.ofNat op))) (e7 := some (.int x7)) d hR hf hg hz (h6 (by have := op_e 5 h; omega))) (by rw [lL, ← hLf, ← hLg])
  · exact mg_wp_L (t211_6 (f := f) (g := g) (z := z) (e2 := some (.int (Int32.ofNat op))) (e7 := some (.int x7)) d hR hf) (by rw [lL, ← hLf, ← hLg])
  · exact mg_wp_L (t211_7 (f := f) (g := g) (z := z) (e2 := some (.int (Int32.ofNat op))) (e7 := some (.int x7)) d hR hz) (by rw [lL, ← hLf, ← hLg])
  · exact mg_wp_L (t211_8 (f := f) (g := g) (z := z) (e2 := some (.int (Int32.ofNat op))) (e7 := some (.int x7)) d hR hz) (by rw [lL, ← hLf, ← hLg])
  · exact mg_wp_L (t211_9 (f := f) (g := g) (z := z) (e2 := some (.int (Int32.ofNat op))) (e7 := some (.int x7)) d hR) (by rw [lL, ← hLf, ← hLg])
  · exact mg_wp_L (t211_10 (f := f) (g := g) (z := z) (e2 := some (.int (Int32.ofNat op))) (e7 := some (.int x7)) d hR) (by rw [lL, ← hLf, ← hLg])
theorem t211 (d : Nat) (hR : lR n G S) {op : Nat} (ho : op < 12) (hf : f < aF (sA S)) (hg : g < aF (sA S)) (hz : z < 4096) : mg_m (mg_KT scr n t) (d + 23) 211 [.ref 0, .ref 148, .int (Int32.ofNat op), .int (Int32.ofNat f), .int (Int32.ofNat g), .int (Int32.ofNat z)] G (lQ n) := by
  have hU := hR.2.1
  have h12 := hR.f12
  have hn3 : 3 ≤ n ∧ n ≤ 5 := by have := hR.2.2.1; unfold tt_n at this; omega
  have n0 : ¬ Int32.ofNat n = 0 := fun q => absurd ((mg_eqN (b := 0) (by omega) (by decide)).mp q) (by omega)
  have eE : Int32.ofNat z - Int32.ofNat z / Int32.ofNat n * Int32.ofNat n = Int32.ofNat (z % n) := tz_rem (by omega) (by omega) (by omega)
  refine mg_me [6] 30 my_211 ms_211 (Nat.le_of_ble_eq_true rfl) ?_
  refine ⟨_, mg_Fs rfl rfl, ?_⟩
  refine mg_dds rfl (if_neg n0) ?_
  refine mg_wp_S (S' := [.int (Int32.ofNat (z % n))]) ?_ (congrArg (fun x => [Value.int x]) eE)
  refine mg_go [39] 30 7 ms_211 ?_
  refine ⟨_, mg_Fe hU.1 rfl rfl, ?_⟩
  refine ⟨fun h => ?_, fun h => ?_⟩
  · have h9 := (mg_leN (a := 12) (by decide) (by omega)).mp h
    refine ⟨fun h2 => ?_, fun h2 => ⟨fun q => absurd rfl q, fun _ => t211s d hR (op := 6) (by decide) hf hg hz (fun q => absurd q (by decide))⟩⟩
    have h3 := (mg_leN (a := 6) (by decide) (by omega)).mp h2
    exact t211s d hR ho hf hg hz (fun q => absurd q (by omega))
  · have h9 := (mg_ltN (b := 12) (by omega) (by decide)).mp h
    refine ⟨fun h2 => t211s d hR ho hf hg hz (fun _ => h9), fun h2 => ⟨fun _ => t211s d hR ho hf hg hz (fun _ => h9), fun q => absurd q (by decide)⟩⟩
end TR
