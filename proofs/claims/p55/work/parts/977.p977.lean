/-! THE LAW: act, case by case -/
theorem lR_push {n : Nat} {U : List a_A} {A : a_A} (h : ∀ B, B ∈ U → aV B = n ∧ 1 ≤ aF B) (hA : aV A = n ∧ 1 ≤ aF A) : ∀ B, B ∈ a_push U A → aV B = n ∧ 1 ≤ aF B := by
  intro B hB
  unfold a_push at hB
  rcases List.mem_append.mp hB with hB | hB
  · split at hB
    · exact h B (List.mem_of_mem_tail hB)
    · exact h B hB
  · rw [List.mem_singleton.mp hB]
    exact hA
/-- a new function: what the law rests on behind it -/
theorem lR_new {n : Nat} {G G1 G2 : mg_G} {S : a_S} {T : a_T} (h : lR n G S) (hR : tR n G1 (addF (sA S) [] T) (a_push (sU S) (sA S))) (hT : cT G2 (sAdd S T)) (hF : cFr148 G1 G2) : lR n G2 (sAdd S T) :=
  ⟨hT, hR.fr hF (fun a ha => by show ¬ a < 148; omega), h.2.2.1, ⟨h.2.2.2.1.1, Nat.le_add_left 1 _⟩, lR_push h.2.2.2.2 h.2.2.2.1⟩
theorem tp_new {S : a_S} {T : a_T} (h : aF (sA S) < 12) : pNew S T = (sAdd S T, (0, Int32.ofNat (aF (sA S)))) := by
  unfold pNew
  rw [if_neg (by omega)]
theorem tp_new3 {S : a_S} {T : a_T} (h : aF (sA S) < 12) : pNew3 S T = (sAdd S T, (0, Int32.ofNat (aF (sA S)))) := by
  unfold pNew3
  rw [if_neg (by omega)]
abbrev lL (n : Nat) (S : a_S) (f g z : Nat) (e2 e7 : Option Value) : mm_L := [some (.ref 0), some (.ref 148), e2, some (.int (Int32.ofNat f)), some (.int (Int32.ofNat g)), some (.int (Int32.ofNat z)), some (.int (Int32.ofNat (z % n))), e7, some (.long (tt n (aT (sA S) f))), none, some (.long (tt n (aT (sA S) g))), none, none, none, none, none, none]
def lQ (n : Nat) : mg_Q := fun o q G' => o = .inl (some (.int 1)) ∧ q ≤ 6 ∧ ∃ S', lR n G' S'
theorem cT.cT {G G' : mg_G} {S : a_S} (h : cT G S) (f : tFr G G') : cT G' S := h.hi (f.mono (fun a ha => by show 148 ≤ a; omega))
section TR
variable {scr : Nat × (Nat → Int32)} {t : List mg_S} {S : a_S} {n : Nat} {G : mg_G} {f g z : Nat} {e2 e7 : Option Value}
theorem t211_0 (d : Nat) (hR : lR n G S) (hf : f < aF (sA S)) (hg : g < aF (sA S)) (hz : z < 4096) (h12 : aF (sA S) < 12) : mg_wp (mg_KT scr n t) mc_211 (d + 22) 116 (lL n S f g z e2 e7) [] G (lQ n) := by
  obtain ⟨hT, hU, hn, hA, hB⟩ := id hR
  obtain ⟨j, hj⟩ : ∃ j, j = z / 8 % 6 := ⟨_, rfl⟩
  have hj6 : j < 6 := by omega
  have eE : Int32.ofNat z / (Int8.ofInt 8).toInt32 - Int32.ofNat z / (Int8.ofInt 8).toInt32 / (Int8.ofInt 6).toInt32 * (Int8.ofInt 6).toInt32 = Int32.ofNat j := by
    rw [tz_8 (by omega), hj]
    exact tz_rem (b := 6) (by omega) (by decide) (by decide)
  have hx : a_comb (Int32.ofNat z / (Int8.ofInt 8).toInt32 - Int32.ofNat z / (Int8.ofInt 8).toInt32 / (Int8.ofInt 6).toInt32 * (Int8.ofInt 6).toInt32) (tt n (aT (sA S) f)) (tt n (aT (sA S) g)) &&& tt_M n = tt n (a_op (Int32.ofNat j) (aT (sA S) f) (aT (sA S) g)) := by
    rw [eE]
    exact tt_op hj6 _ _
  refine mg_go [] 60 116 ms_211 ?_
  refine ⟨Or.inl rfl, ?_⟩
  refine mg_cv (t210 d _ _ _) (by omega) ?_
  refine ⟨Or.inr ⟨_, rfl⟩, ?_⟩
  refine mg_m_mono (t181 (scr := scr) (t := t) d hU h12 hx) (by omega) ?_
  rintro o q G1 ⟨rfl, rfl, hR1, hF1⟩
  have h3 : mg_m (mg_KC scr (shT n ++ t)) (d + 20) 136 [.ref 0, .int (Int32.ofNat z / (Int8.ofInt 8).toInt32 - Int32.ofNat z / (Int8.ofInt 8).toInt32 / (Int8.ofInt 6).toInt32 * (Int8.ofInt 6).toInt32), .int (Int32.ofNat f), .int (Int32.ofNat g)] G1 (cA G1 (ex3 xI xA xS) (sAdd S (a_op (Int32.ofNat j) (aT (sA S) f) (aT (sA S) g))) (0, Int32.ofNat (aF (sA S)))) := by
    rw [eE]
    have h := c136 (scr := scr) (t := shT n ++ t) d (hT.cT hF1) (Int32.ofNat j) (Int32.ofNat f) (Int32.ofNat g)
    have e : p307 S (Int32.ofNat j) (Int32.ofNat f) (Int32.ofNat g) = (sAdd S (a_op (Int32.ofNat j) (aT (sA S) f) (aT (sA S) g)), (0, Int32.ofNat (aF (sA S)))) := by
      unfold p307
      rw [pF_y (vi_of hf (by omega)), pF_y (vi_of hg (by omega)), vi_of hj6 (by decide)]
      exact tp_new3 h12
    unfold cAp at h
    rw [e] at h
    exact h
  refine ⟨Or.inr ⟨_, rfl⟩, ?_⟩
  refine cA_go h3 (by omega) ?_
  intro q2 G2 hq2 hT2 hF2
  have hR2 := lR_new hR hR1 hT2 hF2
  refine ⟨_, mg_Fe hR2.2.1.1 rfl rfl, ?_⟩
  refine ⟨fun h => absurd (mg_dec (aF (sA S))).symm h, fun _ => ?_⟩
  exact ⟨Or.inr rfl, rfl, by omega, _, hR2⟩
theorem t211_1 (d : Nat) (hR : lR n G S) (hf : f < aF (sA S)) (hg : g < aF (sA S)) (hz : z < 4096) (h12 : aF (sA S) < 12) : mg_wp (mg_KT scr n t) mc_211 (d + 22) 163 (lL n S f g z e2 e7) [] G (lQ n) := by
  obtain ⟨hT, hU, hn, hA, hB⟩ := id hR
  obtain ⟨j, hj⟩ : ∃ j, j = z / 8 % aF (sA S) := ⟨_, rfl⟩
  have hj6 : j < aF (sA S) := by rw [hj]; exact Nat.mod_lt _ (by omega)
  have eE : Int32.ofNat z / (Int8.ofInt 8).toInt32 - Int32.ofNat z / (Int8.ofInt 8).toInt32 / Int32.ofNat (aF (sA S)) * Int32.ofNat (aF (sA S)) = Int32.ofNat j := by
    rw [tz_8 (by omega), hj]
    exact tz_rem (by omega) (by omega) (by omega)
  have n0 : ¬ Int32.ofNat (aF (sA S)) = 0 := fun q => absurd ((mg_eqN (b := 0) (by omega) (by decide)).mp q) (by omega)
  refine mg_go [172] 60 163 ms_211 ?_
  refine ⟨_, mg_Fe hU.1 rfl rfl, ?_⟩
  refine mg_dds rfl (if_neg n0) ?_
  refine mg_go [] 60 173 ms_211 ?_
  refine ⟨_, mg_Fs rfl rfl, 12, _, j, mg_Al rfl (by decide), mg_ixE eE (by omega), by omega, ?_⟩
  have hx : ((tt n (aT (sA S) f) &&& tt n (aT (sA S) g)) ||| ((tt n (aT (sA S) f) ^^^ (-1 : Int64)) &&& G.2.1 149 j)) &&& tt_M n = tt n (a_sel (aT (sA S) f) (aT (sA S) g) (aT (sA S) j)) := by
    rw [hU.2.2.2.2.1 j hj6]
    exact tt_sel n _ _ _
  refine ⟨Or.inr ⟨_, rfl⟩, ?_⟩
  refine mg_m_mono (t181 (scr := scr) (t := t) d hU h12 hx) (by omega) ?_
  rintro o q G1 ⟨rfl, rfl, hR1, hF1⟩
  have h3 : mg_m (mg_KC scr (shT n ++ t)) (d + 20) 137 [.ref 0, .int (Int32.ofNat f), .int (Int32.ofNat g), .int (Int32.ofNat z / (Int8.ofInt 8).toInt32 - Int32.ofNat z / (Int8.ofInt 8).toInt32 / Int32.ofNat (aF (sA S)) * Int32.ofNat (aF (sA S)))] G1 (cA G1 (ex2 xI xS) (sAdd S (a_sel (aT (sA S) f) (aT (sA S) g) (aT (sA S) j))) (0, Int32.ofNat (aF (sA S)))) := by
    rw [eE]
    have h := c137 (scr := scr) (t := shT n ++ t) d (hT.cT hF1) (Int32.ofNat f) (Int32.ofNat g) (Int32.ofNat j)
    have e : p308 S (Int32.ofNat f) (Int32.ofNat g) (Int32.ofNat j) = (sAdd S (a_sel (aT (sA S) f) (aT (sA S) g) (aT (sA S) j)), (0, Int32.ofNat (aF (sA S)))) := by
      unfold p308
      rw [pF_y (vi_of hf (by omega)), pF_y (vi_of hg (by omega)), pF_y (vi_of hj6 (by omega))]
      exact tp_new h12
    unfold cAp at h
    rw [e] at h
    exact h
  refine ⟨Or.inr ⟨_, rfl⟩, ?_⟩
  refine cA_go h3 (by omega) ?_
  intro q2 G2 hq2 hT2 hF2
  have hR2 := lR_new hR hR1 hT2 hF2
  refine ⟨_, mg_Fe hR2.2.1.1 rfl rfl, ?_⟩
  refine ⟨fun h => absurd (mg_dec (aF (sA S))).symm h, fun _ => ?_⟩
  exact ⟨Or.inr rfl, rfl, by omega, _, hR2⟩
theorem t211_2 (d : Nat) (hR : lR n G S) (hf : f < aF (sA S)) (hz : z < 4096) (h12 : aF (sA S) < 12) : mg_wp (mg_KT scr n t) mc_211 (d + 22) 223 (lL n S f g z e2 e7) [] G (lQ n) := by
  obtain ⟨hT, hU, hn, hA, hB⟩ := id hR
  refine mg_go [] 60 223 ms_211 ?_
  refine ⟨Or.inr ⟨_, rfl⟩, ?_⟩
  refine mg_m_mono (t181 (scr := scr) (t := t) d hU h12 (tt_not n (aT (sA S) f))) (by omega) ?_
  rintro o q G1 ⟨rfl, rfl, hR1, hF1⟩
  have h3 : mg_m (mg_KC scr (shT n ++ t)) (d + 20) 138 [.ref 0, .int (Int32.ofNat f)] G1 (cA G1 (ex2 xI xS) (sAdd S (a_not (aT (sA S) f))) (0, Int32.ofNat (aF (sA S)))) := by
    have h := c138 (scr := scr) (t := shT n ++ t) d (hT.cT hF1) (Int32.ofNat f)
    have e : p309 S (Int32.ofNat f) = (sAdd S (a_not (aT (sA S) f)), (0, Int32.ofNat (aF (sA S)))) := by
      unfold p309
      rw [pF_y (vi_of hf (by omega))]
      exact tp_new h12
    unfold cAp at h
    rw [e] at h
    exact h
  refine ⟨Or.inr ⟨_, rfl⟩, ?_⟩
  refine cA_go h3 (by omega) ?_
  intro q2 G2 hq2 hT2 hF2
  have hR2 := lR_new hR hR1 hT2 hF2
  refine ⟨_, mg_Fe hR2.2.1.1 rfl rfl, ?_⟩
  refine ⟨fun h => absurd (mg_dec (aF (sA S))).symm h, fun _ => ?_⟩
  exact ⟨Or.inr rfl, rfl, by omega, _, hR2⟩
theorem tz_82 (hz : z < 4096) : ∃ b : Bool, Int32.ofNat z / (Int8.ofInt 8).toInt32 - Int32.ofNat z / (Int8.ofInt 8).toInt32 / Int32.ofInt 2 * Int32.ofInt 2 = Int32.ofNat (if b then 1 else 0) := by
  refine ⟨decide (z / 8 % 2 = 1), ?_⟩
  rw [tz_8 (by omega)]
  refine (tz_rem (b := 2) (by omega) (by decide) (by decide)).trans ?_
  congr 1
  by_cases h : z / 8 % 2 = 1
  · rw [decide_eq_true h, h]
    rfl
  · rw [decide_eq_false h]
    show z / 8 % 2 = 0
    omega
theorem t211_3 (d : Nat) (hR : lR n G S) (hf : f < aF (sA S)) (hz : z < 4096) (h12 : aF (sA S) < 12) : mg_wp (mg_KT scr n t) mc_211 (d + 22) 253 (lL n S f g z e2 e7) [] G (lQ n) := by
  obtain ⟨hT, hU, hn, hA, hB⟩ := id hR
  obtain ⟨b, eE⟩ := tz_82 hz
  have hv : z % n < n := Nat.mod_lt _ (by unfold tt_n at hn; omega)
  refine mg_go [] 60 253 ms_211 ?_
  have h1 : mg_m (mg_KT scr n t) (d + 1) 178 [.ref 148, .long (tt n (aT (sA S) f)), .int (Int32.ofNat (z % n)), .int (Int32.ofNat z / (Int8.ofInt 8).toInt32 - Int32.ofNat z / (Int8.ofInt 8).toInt32 / Int32.ofInt 2 * Int32.ofInt 2)] G (mg_v (.long (tt n (a_cf (aT (sA S) f) (z % n) b))) G) := by
    rw [eE]
    exact t178 d hn hv _ b
  refine ⟨Or.inr ⟨_, rfl⟩, ?_⟩
  refine mg_cv h1 (by omega) ?_
  refine ⟨Or.inr ⟨_, rfl⟩, ?_⟩
  refine mg_m_mono (t181 (scr := scr) (t := t) d hU h12 (tt_MM n (a_cf (aT (sA S) f) (z % n) b))) (by omega) ?_
  rintro o q G1 ⟨rfl, rfl, hR1, hF1⟩
  have h3 : mg_m (mg_KC scr (shT n ++ t)) (d + 20) 139 [.ref 0, .int (Int32.ofNat f), .int (Int32.ofNat (z % n)), .int (if b then 1 else 0)] G1 (cA G1 (ex2 xI xS) (sAdd S (a_cf (aT (sA S) f) (z % n) b)) (0, Int32.ofNat (aF (sA S)))) := by
    have h := c139 (scr := scr) (t := shT n ++ t) d (hT.cT hF1) (Int32.ofNat f) (Int32.ofNat (z % n)) b
    have e : p310 S (Int32.ofNat f) (Int32.ofNat (z % n)) b = (sAdd S (a_cf (aT (sA S) f) (z % n) b), (0, Int32.ofNat (aF (sA S)))) := by
      unfold p310
      rw [pF_y (vi_of hf (by omega)), pV_y (vi_of (by rw [hA.1]; exact hv) (by have := hT.v8; omega))]
      exact tp_new h12
    unfold cAp at h
    rw [e] at h
    exact h
  cases b with
  | true =>
    refine ⟨fun h => absurd eE h, fun _ => ?_⟩
    refine ⟨Or.inr ⟨_, rfl⟩, ?_⟩
    refine cA_go h3 (by omega) ?_
    intro q2 G2 hq2 hT2 hF2
    have hR2 := lR_new hR hR1 hT2 hF2
    refine ⟨_, mg_Fe hR2.2.1.1 rfl rfl, ?_⟩
    refine ⟨fun h => absurd (mg_dec (aF (sA S))).symm h, fun _ => ?_⟩
    exact ⟨Or.inr rfl, rfl, by omega, _, hR2⟩
  | false =>
    refine ⟨fun _ => ?_, fun h => absurd (eE.symm.trans h) (by decide)⟩
    refine ⟨Or.inr ⟨_, rfl⟩, ?_⟩
    refine cA_go h3 (by omega) ?_
    intro q2 G2 hq2 hT2 hF2
    have hR2 := lR_new hR hR1 hT2 hF2
    refine ⟨_, mg_Fe hR2.2.1.1 rfl rfl, ?_⟩
    refine ⟨fun h => absurd (mg_dec (aF (sA S))).symm h, fun _ => ?_⟩
    exact ⟨Or.inr rfl, rfl, by omega, _, hR2⟩
theorem t211_4 (d : Nat) (hR : lR n G S) (hf : f < aF (sA S)) (hz : z < 4096) (h12 : aF (sA S) < 12) : mg_wp (mg_KT scr n t) mc_211 (d + 22) 310 (lL n S f g z e2 e7) [] G (lQ n) := by
  obtain ⟨hT, hU, hn, hA, hB⟩ := id hR
  obtain ⟨b, eE⟩ := tz_82 hz
  have hv : z % n < n := Nat.mod_lt _ (by unfold tt_n at hn; omega)
  have hlo := t178 (scr := scr) (t := t) (G := G) d hn hv (aT (sA S) f) false
  have hhi := t178 (scr := scr) (t := t) (G := G) d hn hv (aT (sA S) f) true
  have hx := tt_qu n (z % n) b (aT (sA S) f)
  have h3 : ∀ G1, tFr G G1 → mg_m (mg_KC scr (shT n ++ t)) (d + 20) 140 [.ref 0, .int (Int32.ofNat f), .int (Int32.ofNat (z % n)), .int (if b then 1 else 0)] G1 (cA G1 (ex2 xI xS) (sAdd S (a_qu b (z % n) (aT (sA S) f))) (0, Int32.ofNat (aF (sA S)))) := fun G1 hF1 => by
    have h := c140 (scr := scr) (t := shT n ++ t) d (hT.cT hF1) (Int32.ofNat f) (Int32.ofNat (z % n)) b
    have e : p311 S (Int32.ofNat f) (Int32.ofNat (z % n)) b = (sAdd S (a_qu b (z % n) (aT (sA S) f)), (0, Int32.ofNat (aF (sA S)))) := by
      unfold p311
      rw [pF_y (vi_of hf (by omega)), pV_y (vi_of (by rw [hA.1]; exact hv) (by have := hT.v8; omega))]
      exact tp_new h12
    unfold cAp at h
    rw [e] at h
    exact h
  refine mg_go [] 90 310 ms_211 ?_
  cases b with
  | true =>
    refine ⟨fun h => absurd eE h, fun _ => ?_⟩
    refine ⟨Or.inr ⟨_, rfl⟩, mg_cv hlo (by omega) ?_⟩
    refine ⟨Or.inr ⟨_, rfl⟩, mg_cv hhi (by omega) ?_⟩
    refine ⟨fun h => absurd h (by decide), fun _ => ?_⟩
    refine ⟨Or.inr ⟨_, rfl⟩, ?_⟩
    refine mg_m_mono (t181 (scr := scr) (t := t) d hU h12 hx) (by omega) ?_
    rintro o q G1 ⟨rfl, rfl, hR1, hF1⟩
    refine ⟨Or.inr ⟨_, rfl⟩, ?_⟩
    refine cA_go (h3 G1 hF1) (by omega) ?_
    intro q2 G2 hq2 hT2 hF2
    have hR2 := lR_new hR hR1 hT2 hF2
    refine ⟨_, mg_Fe hR2.2.1.1 rfl rfl, ?_⟩
    refine ⟨fun h => absurd (mg_dec (aF (sA S))).symm h, fun _ => ?_⟩
    exact ⟨Or.inr rfl, rfl, by omega, _, hR2⟩
  | false =>
    refine ⟨fun _ => ?_, fun h => absurd (eE.symm.trans h) (by decide)⟩
    refine ⟨Or.inr ⟨_, rfl⟩, mg_cv hlo (by omega) ?_⟩
    refine ⟨Or.inr ⟨_, rfl⟩, mg_cv hhi (by omega) ?_⟩
    refine ⟨fun _ => ?_, fun h => absurd rfl h⟩
    refine ⟨Or.inr ⟨_, rfl⟩, ?_⟩
    refine mg_m_mono (t181 (scr := scr) (t := t) d hU h12 hx) (by omega) ?_
    rintro o q G1 ⟨rfl, rfl, hR1, hF1⟩
    refine ⟨Or.inr ⟨_, rfl⟩, ?_⟩
    refine cA_go (h3 G1 hF1) (by omega) ?_
    intro q2 G2 hq2 hT2 hF2
    have hR2 := lR_new hR hR1 hT2 hF2
    refine ⟨_, mg_Fe hR2.2.1.1 rfl rfl, ?_⟩
    refine ⟨fun h => absurd (mg_dec (aF (sA S))).symm h, fun _ => ?_⟩
    exact ⟨Or.inr rfl, rfl, by omega, _, hR2⟩
theorem t211_5 (d : Nat) (hR : lR n G S) (hf : f < aF (sA S)) (hg : g < aF (sA S)) (hz : z < 4096) (h12 : aF (sA S) < 12) : mg_wp (mg_KT scr n t) mc_211 (d + 22) 396 (lL n S f g z e2 e7) [] G (lQ n) := by
  obtain ⟨hT, hU, hn, hA, hB⟩ := id hR
  have hv : z % n < n := Nat.mod_lt _ (by unfold tt_n at hn; omega)
  have hlo := t178 (scr := scr) (t := t) (G := G) d hn hv (aT (sA S) f) false
  have hhi := t178 (scr := scr) (t := t) (G := G) d hn hv (aT (sA S) f) true
  have hx := tt_sel n (aT (sA S) g) (a_cf (aT (sA S) f) (z % n) true) (a_cf (aT (sA S) f) (z % n) false)
  refine mg_go [] 90 396 ms_211 ?_
  refine ⟨Or.inr ⟨_, rfl⟩, mg_cv hhi (by omega) ?_⟩
  refine ⟨Or.inr ⟨_, rfl⟩, mg_cv hlo (by omega) ?_⟩
  refine ⟨Or.inr ⟨_, rfl⟩, ?_⟩
  refine mg_m_mono (t181 (scr := scr) (t := t) d hU h12 hx) (by omega) ?_
  rintro o q G1 ⟨rfl, rfl, hR1, hF1⟩
  have h3 : mg_m (mg_KC scr (shT n ++ t)) (d + 20) 141 [.ref 0, .int (Int32.ofNat f), .int (Int32.ofNat (z % n)), .int (Int32.ofNat g)] G1 (cA G1 (ex2 xI xS) (sAdd S (a_sel (aT (sA S) g) (a_cf (aT (sA S) f) (z % n) true) (a_cf (aT (sA S) f) (z % n) false))) (0, Int32.ofNat (aF (sA S)))) := by
    have h := c141 (scr := scr) (t := shT n ++ t) d (hT.cT hF1) (Int32.ofNat f) (Int32.ofNat (z % n)) (Int32.ofNat g)
    have e : p312 S (Int32.ofNat f) (Int32.ofNat (z % n)) (Int32.ofNat g) = (sAdd S (a_sel (aT (sA S) g) (a_cf (aT (sA S) f) (z % n) true) (a_cf (aT (sA S) f) (z % n) false)), (0, Int32.ofNat (aF (sA S)))) := by
      unfold p312
      rw [pF_y (vi_of hf (by omega)), pV_y (vi_of (by rw [hA.1]; exact hv) (by have := hT.v8; omega)), pF_y (vi_of hg (by omega))]
      exact tp_new h12
    unfold cAp at h
    rw [e] at h
    exact h
  refine ⟨Or.inr ⟨_, rfl⟩, ?_⟩
  refine cA_go h3 (by omega) ?_
  intro q2 G2 hq2 hT2 hF2
  have hR2 := lR_new hR hR1 hT2 hF2
  refine ⟨_, mg_Fe hR2.2.1.1 rfl rfl, ?_⟩
  refine ⟨fun h => absurd (mg_dec (aF (sA S))).symm h, fun _ => ?_⟩
  exact ⟨Or.inr rfl, rfl, by omega, _, hR2⟩
end TR
