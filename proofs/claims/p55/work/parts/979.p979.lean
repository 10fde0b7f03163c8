/-! THE LAW: its loops -/
theorem tz_4i (i c : Nat) : Int32.ofInt 4 * Int32.ofNat i + Int32.ofNat c = Int32.ofNat (4 * i + c) := by
  rw [show Int32.ofInt 4 = Int32.ofNat 4 from rfl, ← Int32.ofNat_mul, ← Int32.ofNat_add]
section TR
variable {L : Nat} {xs : Nat → Int32} {t : List mg_S} {n : Nat} {e3 : Value}
theorem lwC (hL : L ≤ 260) (d : Nat) : ∀ (m k : Nat) (G : mg_G) (S : a_S) (e6 e7 : Option Value), lR n G S → k + m = aF (sA S) → mg_wp (mg_KT (L, xs) n t) mc_law (d + 30) 253 [some (.ref 1000002), some (.ref 0), some (.int (Int32.ofNat n)), some e3, some (.ref 148), some (.int (Int32.ofNat k)), e6, e7] [] G (fun o q _ => o = .inl (some (.int 1)) ∧ q ≤ 64 * m) := by
  intro m
  induction m with
  | zero =>
    intro k G S e6 e7 hR hk
    have hU := hR.2.1
    have h12 := hR.f12
    obtain rfl : k = aF (sA S) := by omega
    refine mg_go [] 20 253 ms_law ?_
    refine ⟨_, mg_Fe hU.1 rfl rfl, ?_⟩
    exact ⟨fun _ => ⟨Or.inr rfl, rfl, Nat.zero_le _⟩, fun h => absurd h Int32.lt_irrefl⟩
  | succ m ih =>
    intro k G S e6 e7 hR hk
    have hU := hR.2.1
    have h12 := hR.f12
    have hk2 : k < aF (sA S) := by omega
    refine mg_go [253] 40 253 ms_law ?_
    refine ⟨_, mg_Fe hU.1 rfl rfl, ?_⟩
    refine ⟨fun h => absurd h (mg_nle hk2 (by omega)), fun _ => ?_⟩
    refine ⟨Or.inl rfl, ?_⟩
    refine mg_m_mono (t208 (scr := (L, xs)) (t := shT n ++ t) d hR.2.2.1 hR.1 hR.2.2.2.1.1 hk2) (by omega) ?_
    rintro o q G1 ⟨rfl, hq, hT1, hF1⟩
    have hR1 := hR.go hT1 hF1
    refine ⟨_, mg_Fs rfl rfl, 12, _, k, mg_Al rfl (by decide), mg_ixN (by omega), by omega, ?_⟩
    refine ⟨fun _ => ?_, fun h => absurd ((lg_cmp_eq _ _).mpr (hR1.2.1.2.2.2.2.1 k hk2).symm) h⟩
    refine mg_wp_mono (mg_wp_L (ih (k + 1) G1 S e6 e7 hR1 (by omega)) (by rw [← mg_inc k])) ?_
    rintro o q2 G2 ⟨rfl, g1⟩
    exact ⟨rfl, by omega⟩
theorem lwB (hL : L ≤ 260) (d : Nat) : ∀ (m i : Nat) (G : mg_G) (S : a_S) (e6 e7 : Option Value), lR n G S → i + m = 24 → mg_wp (mg_KT (L, xs) n t) mc_law (d + 30) 112 [some (.ref 1000002), some (.ref 0), some (.int (Int32.ofNat n)), some e3, some (.ref 148), some (.int (Int32.ofNat i)), e6, e7] [] G (fun o q _ => o = .inl (some (.int 1)) ∧ q ≤ 2606 * m + 768) := by
  intro m
  induction m with
  | zero =>
    intro i G S e6 e7 hR hk
    have h12 := hR.f12
    obtain rfl : i = 24 := by omega
    refine mg_go [253] 20 112 ms_law ?_
    refine ⟨fun _ => ?_, fun h => absurd h (by decide)⟩
    refine mg_wp_mono (lwC (e3 := e3) (t := t) (n := n) (xs := xs) hL d (aF (sA S)) 0 G S e6 e7 hR (Nat.zero_add _)) ?_
    rintro o q2 G2 ⟨rfl, g1⟩
    exact ⟨rfl, by omega⟩
  | succ m ih =>
    intro i G S e6 e7 hR hk
    have hU := hR.2.1
    have h12 := hR.f12
    have h1 := hR.2.2.2.1.2
    have i24 : i < 24 := by omega
    have n0 : ¬ Int32.ofNat (aF (sA S)) = 0 := fun q => absurd ((mg_eqN (b := 0) (by omega) (by decide)).mp q) (by omega)
    obtain ⟨r1, hr1, p1⟩ := t203 (xs := xs) (sh := shC ++ (shT n ++ t)) (G := G) (d + 29) hL (4 * i + 3) (by omega) (n := 99) (by decide) (by decide)
    obtain ⟨r2, hr2, p2⟩ := t203 (xs := xs) (sh := shC ++ (shT n ++ t)) (G := G) (d + 29) hL (4 * i + 4) (by omega) (n := 99) (by decide) (by decide)
    obtain ⟨r3, hr3, p3⟩ := t203 (xs := xs) (sh := shC ++ (shT n ++ t)) (G := G) (d + 29) hL (4 * i + 2) (by omega) (n := 12) (by decide) (by decide)
    obtain ⟨r4, hr4, p4⟩ := t203 (xs := xs) (sh := shC ++ (shT n ++ t)) (G := G) (d + 29) hL (4 * i + 5) (by omega) (n := 4096) (by decide) (by decide)
    rw [← tz_4i] at p1 p2 p3 p4
    have hf : r1 % aF (sA S) < aF (sA S) := Nat.mod_lt _ (by omega)
    have hg : r2 % aF (sA S) < aF (sA S) := Nat.mod_lt _ (by omega)
    have eF : Int32.ofNat r1 - Int32.ofNat r1 / Int32.ofNat (aF (sA S)) * Int32.ofNat (aF (sA S)) = Int32.ofNat (r1 % aF (sA S)) := tz_rem (by omega) (by omega) (by omega)
    have eG : Int32.ofNat r2 - Int32.ofNat r2 / Int32.ofNat (aF (sA S)) * Int32.ofNat (aF (sA S)) = Int32.ofNat (r2 % aF (sA S)) := tz_rem (by omega) (by omega) (by omega)
    refine mg_go [136] 40 112 ms_law ?_
    refine ⟨fun h => absurd h (mg_nle (b := 24) i24 (by decide)), fun _ => ?_⟩
    refine ⟨Or.inl rfl, mg_cv p1 (by omega) ?_⟩
    refine ⟨_, mg_Fe hU.1 rfl rfl, ?_⟩
    refine mg_dds rfl (if_neg n0) ?_
    refine mg_wp_S (S' := [.int (Int32.ofNat (r1 % aF (sA S)))]) ?_ (congrArg (fun x => [Value.int x]) eF)
    refine mg_go [156] 40 137 ms_law ?_
    refine ⟨Or.inl rfl, mg_cv p2 (by omega) ?_⟩
    refine ⟨_, mg_Fe hU.1 rfl rfl, ?_⟩
    refine mg_dds rfl (if_neg n0) ?_
    refine mg_wp_S (S' := [.int (Int32.ofNat (r2 % aF (sA S)))]) ?_ (congrArg (fun x => [Value.int x]) eG)
    refine mg_go [199] 60 157 ms_law ?_
    refine ⟨Or.inl rfl, mg_cv p3 (by omega) ?_⟩
    refine ⟨Or.inl rfl, mg_cv p4 (by omega) ?_⟩
    refine ⟨Or.inl rfl, ?_⟩
    refine mg_m_mono (t211 (scr := (L, xs)) (t := t) d hR hr3 hf hg hr4) (by omega) ?_
    rintro o q1 G1 ⟨rfl, hq1, S1, hR1⟩
    refine ⟨fun _ => ?_, fun h => absurd h (by decide)⟩
    have hU1 := hR1.2.1
    have h121 := hR1.f12
    have h11 := hR1.2.2.2.1.2
    refine mg_go [235] 60 199 ms_law ?_
    refine ⟨_, mg_Fe hU1.1 rfl rfl, ?_⟩
    have e1 : Int32.ofNat (aF (sA S1)) - Int32.ofInt 1 = Int32.ofNat (aF (sA S1) - 1) := mg_subN (b := 1) h11
    have h13 := t213 (scr := (L, xs)) (t := t) d hR1 (show aF (sA S1) - 1 < aF (sA S1) by omega)
    rw [← e1] at h13
    refine ⟨Or.inl rfl, ?_⟩
    refine mg_m_mono h13 (by omega) ?_
    rintro o q2 G2 ⟨rfl, hq2, hR2⟩
    refine ⟨fun h => absurd h (by decide), fun _ => ?_⟩
    obtain ⟨r5, hr5, p5⟩ := t203 (xs := xs) (sh := shC ++ (shT n ++ t)) (G := G2) (d + 29) hL (4 * i + 3) (by omega) (n := 99) (by decide) (by decide)
    rw [← tz_4i] at p5
    refine ⟨Or.inl rfl, mg_cv p5 (by omega) ?_⟩
    refine ⟨_, mg_Fe hR2.2.1.1 rfl rfl, ?_⟩
    have n1 : ¬ Int32.ofNat (aF (sA S1)) = 0 := fun q => absurd ((mg_eqN (b := 0) (by omega) (by decide)).mp q) (by omega)
    have eH : Int32.ofNat r5 - Int32.ofNat r5 / Int32.ofNat (aF (sA S1)) * Int32.ofNat (aF (sA S1)) = Int32.ofNat (r5 % aF (sA S1)) := tz_rem (by omega) (by omega) (by omega)
    refine mg_dds rfl (if_neg n1) ?_
    refine mg_wp_S (S' := [.int (Int32.ofNat (r5 % aF (sA S1))), .ref 148, .ref 0]) ?_ (congrArg (fun x => [Value.int x, .ref 148, .ref 0]) eH)
    refine mg_go [112] 60 236 ms_law ?_
    refine ⟨Or.inl rfl, ?_⟩
    refine mg_m_mono (t213 (scr := (L, xs)) (t := t) d hR2 (show r5 % aF (sA S1) < aF (sA S1) from Nat.mod_lt _ (by omega))) (by omega) ?_
    rintro o q3 G3 ⟨rfl, hq3, hR3⟩
    refine ⟨fun _ => ?_, fun h => absurd h (by decide)⟩
    refine mg_wp_mono (mg_wp_L (ih (i + 1) G3 S1 _ _ hR3 (by omega)) (by rw [← mg_inc i])) ?_
    rintro o q4 G4 ⟨rfl, g1⟩
    exact ⟨rfl, by omega⟩
theorem lwA (hL : L ≤ 260) (d : Nat) : ∀ (m k : Nat) (G : mg_G) (S : a_S) (e6 e7 : Option Value), lR n G S → aF (sA S) = 3 → k + m = 3 → mg_wp (mg_KT (L, xs) n t) mc_law (d + 30) 84 [some (.ref 1000002), some (.ref 0), some (.int (Int32.ofNat n)), some e3, some (.ref 148), some (.int (Int32.ofNat k)), e6, e7] [] G (fun o q _ => o = .inl (some (.int 1)) ∧ q ≤ 1300 * m + 63312) := by
  intro m
  induction m with
  | zero =>
    intro k G S e6 e7 hR h3 hk
    obtain rfl : k = 3 := by omega
    refine mg_go [112] 20 84 ms_law ?_
    refine ⟨fun _ => ?_, fun h => absurd h (by decide)⟩
    refine mg_wp_mono (lwB (e3 := e3) (t := t) (n := n) (xs := xs) hL d 24 0 G S e6 e7 hR rfl) ?_
    rintro o q2 G2 ⟨rfl, g1⟩
    exact ⟨rfl, by omega⟩
  | succ m ih =>
    intro k G S e6 e7 hR h3 hk
    refine mg_go [84] 40 84 ms_law ?_
    refine ⟨fun h => absurd h (mg_nle (b := 3) (show k < 3 by omega) (by decide)), fun _ => ?_⟩
    refine ⟨Or.inl rfl, ?_⟩
    refine mg_m_mono (t213 (scr := (L, xs)) (t := t) d hR (show k < aF (sA S) by omega)) (by omega) ?_
    rintro o q2 G2 ⟨rfl, hq2, hR2⟩
    refine ⟨fun _ => ?_, fun h => absurd h (by decide)⟩
    refine mg_wp_mono (mg_wp_L (ih (k + 1) G2 S e6 e7 hR2 h3 (by omega)) (by rw [← mg_inc k])) ?_
    rintro o q4 G4 ⟨rfl, g1⟩
    exact ⟨rfl, by omega⟩
end TR
