/-! THE LAW: the cases 18, 19, 20, 21, 22, 23, 24, 25, 26, 27, 28, 29, 30, 31, 32, 33, 34, 35 -/
section LW
variable {L : Nat} {xs : Nat → Int32} {G : mg_G} {S S' : a_S} {a : qR}
theorem lw_18 (d i n : Nat) (e6 e7 e8 : Option Value) (hL : L ≤ 3072) (hi : i + 6 ≤ L) (hr : rT G S) (hn : lwN L xs (d + 821) i n)
    (hw : mg_m (mg_KM (L, xs) shO) (d + 821) 359 [.ref 0, .int (xs (i + 1)), .ref 169] G (wP9 G S' a))
    (hu : ∀ G1, rT G1 S → mg_m (mg_KM (L, xs) shO) (d + 820) 279 [.ref 148, .int (xs (i + 1))] G1 (rW9 G1 S' a)) :
    mg_wp (mg_KM (L, xs) shO) mc_law (d + 821) 1322 [some (.ref 1000002), some (.ref 0), some (.ref 148), some (.ref 169), some (.ref 170), some (.int (Int32.ofNat i)), e6, e7, e8] [] G (lwQ (n + 1)) := by
  refine mg_goz [3435] 120 1322 ms_law mlz_14 ?_
  repeat (first | refine ⟨_, mg_Fs rfl rfl, ?_⟩ | refine ⟨Or.inl rfl, ?_⟩ | refine ⟨Or.inr ⟨_, rfl⟩, ?_⟩ | refine ⟨fun _ => ?_, fun h => absurd h (by decide)⟩ | refine ⟨fun h => absurd h (by decide), fun _ => ?_⟩)
  refine ⟨_, _, i + 1, mg_Ao (show mm_old L xs 1000002 = some (0, (L, .inl xs)) from rfl) (by decide), mg_ixE (mg_inc i) (by omega), by omega, ?_⟩
  repeat (first | refine ⟨_, mg_Fs rfl rfl, ?_⟩ | refine ⟨Or.inl rfl, ?_⟩ | refine ⟨Or.inr ⟨_, rfl⟩, ?_⟩ | refine ⟨fun _ => ?_, fun h => absurd h (by decide)⟩ | refine ⟨fun h => absurd h (by decide), fun _ => ?_⟩)
  refine mg_m_mono (hw) (by omega) ?_
  rintro o q G1 ⟨rfl, hq, hT1, hF1, hv⟩
  repeat (first | refine ⟨_, mg_Fs rfl rfl, ?_⟩ | refine ⟨Or.inl rfl, ?_⟩ | refine ⟨Or.inr ⟨_, rfl⟩, ?_⟩ | refine ⟨fun _ => ?_, fun h => absurd h (by decide)⟩ | refine ⟨fun h => absurd h (by decide), fun _ => ?_⟩)
  refine ⟨_, _, i + 1, mg_Ao (show mm_old L xs 1000002 = some (0, (L, .inl xs)) from rfl) (by decide), mg_ixE (mg_inc i) (by omega), by omega, ?_⟩
  repeat (first | refine ⟨_, mg_Fs rfl rfl, ?_⟩ | refine ⟨Or.inl rfl, ?_⟩ | refine ⟨Or.inr ⟨_, rfl⟩, ?_⟩ | refine ⟨fun _ => ?_, fun h => absurd h (by decide)⟩ | refine ⟨fun h => absurd h (by decide), fun _ => ?_⟩)
  refine mg_m_mono (hu G1 (hr.fo hF1)) (by omega) ?_
  rintro o q2 G2 ⟨rfl, rfl, hT2, hF2, h10⟩
  repeat (first | refine ⟨_, mg_Fs rfl rfl, ?_⟩ | refine ⟨Or.inl rfl, ?_⟩ | refine ⟨Or.inr ⟨_, rfl⟩, ?_⟩ | refine ⟨fun _ => ?_, fun h => absurd h (by decide)⟩ | refine ⟨fun h => absurd h (by decide), fun _ => ?_⟩)
  refine mg_cv (r174 0 h10) (by omega) ?_
  repeat (first | refine ⟨_, mg_Fs rfl rfl, ?_⟩ | refine ⟨Or.inl rfl, ?_⟩ | refine ⟨Or.inr ⟨_, rfl⟩, ?_⟩ | refine ⟨fun _ => ?_, fun h => absurd h (by decide)⟩ | refine ⟨fun h => absurd h (by decide), fun _ => ?_⟩)
  refine ⟨fun _ => ?_, fun z => absurd rfl z⟩
  refine ⟨fun z => ?_, fun z => ?_⟩
  · exact hn.go (hT1.rF hF2) hT2 hq (fun o j G3 w => ⟨w.1, w.2⟩)
  · refine ⟨1, _, 0, mg_Al rfl (by decide), ⟨by decide, by decide⟩, by decide, ?_⟩
    refine ⟨fun z2 => ?_, fun z2 => ?_⟩
    · exact hn.go (hT1.rF hF2) hT2 hq (fun o j G3 w => ⟨w.1, w.2⟩)
    · exact (z2 ((lg_cmp_eq _ _).mpr ((congrFun (hF2 169 (Or.inr (by decide))).2.1 0).trans (hv z)))).elim
theorem lx_18 (d i n : Nat) (e6 e7 e8 : Option Value) (hL : L ≤ 3072) (hi : i + 6 ≤ L) (hc : cT G S) (hr : rT G S) (hn : lwN L xs (d + 821) i n) : mg_wp (mg_KM (L, xs) shO) mc_law (d + 821) 1322 [some (.ref 1000002), some (.ref 0), some (.ref 148), some (.ref 169), some (.ref 170), some (.int (Int32.ofNat i)), e6, e7, e8] [] G (lwQ (n + 1)) :=
  lw_18 (S' := S) (a := (q279 (sA S) (xs (i + 1)))) d i n e6 e7 e8 hL hi hr hn (w359 d (xs (i + 1)) (mg_m_mono (c122 d hc (xs (i + 1))) (by omega) (fun _ _ _ h => h)) (g279_ (xs (i + 1)))) (fun G1 h1 => u279 d h1 (xs (i + 1)))
theorem lw_19 (d i n : Nat) (e6 e7 e8 : Option Value) (hL : L ≤ 3072) (hi : i + 6 ≤ L) (hr : rT G S) (hn : lwN L xs (d + 821) i n)
    (hw : mg_m (mg_KM (L, xs) shO) (d + 821) 360 [.ref 0, .int (xs (i + 1)), .ref 169] G (wP9 G S' a))
    (hu : ∀ G1, rT G1 S → mg_m (mg_KM (L, xs) shO) (d + 820) 282 [.ref 148, .int (xs (i + 1))] G1 (rW9 G1 S' a)) :
    mg_wp (mg_KM (L, xs) shO) mc_law (d + 821) 1378 [some (.ref 1000002), some (.ref 0), some (.ref 148), some (.ref 169), some (.ref 170), some (.int (Int32.ofNat i)), e6, e7, e8] [] G (lwQ (n + 1)) := by
  refine mg_goz [3435] 120 1378 ms_law mlz_14 ?_
  repeat (first | refine ⟨_, mg_Fs rfl rfl, ?_⟩ | refine ⟨Or.inl rfl, ?_⟩ | refine ⟨Or.inr ⟨_, rfl⟩, ?_⟩ | refine ⟨fun _ => ?_, fun h => absurd h (by decide)⟩ | refine ⟨fun h => absurd h (by decide), fun _ => ?_⟩)
  refine ⟨_, _, i + 1, mg_Ao (show mm_old L xs 1000002 = some (0, (L, .inl xs)) from rfl) (by decide), mg_ixE (mg_inc i) (by omega), by omega, ?_⟩
  repeat (first | refine ⟨_, mg_Fs rfl rfl, ?_⟩ | refine ⟨Or.inl rfl, ?_⟩ | refine ⟨Or.inr ⟨_, rfl⟩, ?_⟩ | refine ⟨fun _ => ?_, fun h => absurd h (by decide)⟩ | refine ⟨fun h => absurd h (by decide), fun _ => ?_⟩)
  refine mg_m_mono (hw) (by omega) ?_
  rintro o q G1 ⟨rfl, hq, hT1, hF1, hv⟩
  repeat (first | refine ⟨_, mg_Fs rfl rfl, ?_⟩ | refine ⟨Or.inl rfl, ?_⟩ | refine ⟨Or.inr ⟨_, rfl⟩, ?_⟩ | refine ⟨fun _ => ?_, fun h => absurd h (by decide)⟩ | refine ⟨fun h => absurd h (by decide), fun _ => ?_⟩)
  refine ⟨_, _, i + 1, mg_Ao (show mm_old L xs 1000002 = some (0, (L, .inl xs)) from rfl) (by decide), mg_ixE (mg_inc i) (by omega), by omega, ?_⟩
  repeat (first | refine ⟨_, mg_Fs rfl rfl, ?_⟩ | refine ⟨Or.inl rfl, ?_⟩ | refine ⟨Or.inr ⟨_, rfl⟩, ?_⟩ | refine ⟨fun _ => ?_, fun h => absurd h (by decide)⟩ | refine ⟨fun h => absurd h (by decide), fun _ => ?_⟩)
  refine mg_m_mono (hu G1 (hr.fo hF1)) (by omega) ?_
  rintro o q2 G2 ⟨rfl, rfl, hT2, hF2, h10⟩
  repeat (first | refine ⟨_, mg_Fs rfl rfl, ?_⟩ | refine ⟨Or.inl rfl, ?_⟩ | refine ⟨Or.inr ⟨_, rfl⟩, ?_⟩ | refine ⟨fun _ => ?_, fun h => absurd h (by decide)⟩ | refine ⟨fun h => absurd h (by decide), fun _ => ?_⟩)
  refine mg_cv (r174 0 h10) (by omega) ?_
  repeat (first | refine ⟨_, mg_Fs rfl rfl, ?_⟩ | refine ⟨Or.inl rfl, ?_⟩ | refine ⟨Or.inr ⟨_, rfl⟩, ?_⟩ | refine ⟨fun _ => ?_, fun h => absurd h (by decide)⟩ | refine ⟨fun h => absurd h (by decide), fun _ => ?_⟩)
  refine ⟨fun _ => ?_, fun z => absurd rfl z⟩
  refine ⟨fun z => ?_, fun z => ?_⟩
  · exact hn.go (hT1.rF hF2) hT2 hq (fun o j G3 w => ⟨w.1, w.2⟩)
  · refine ⟨1, _, 0, mg_Al rfl (by decide), ⟨by decide, by decide⟩, by decide, ?_⟩
    refine ⟨fun z2 => ?_, fun z2 => ?_⟩
    · exact hn.go (hT1.rF hF2) hT2 hq (fun o j G3 w => ⟨w.1, w.2⟩)
    · exact (z2 ((lg_cmp_eq _ _).mpr ((congrFun (hF2 169 (Or.inr (by decide))).2.1 0).trans (hv z)))).elim
theorem lx_19 (d i n : Nat) (e6 e7 e8 : Option Value) (hL : L ≤ 3072) (hi : i + 6 ≤ L) (hc : cT G S) (hr : rT G S) (hn : lwN L xs (d + 821) i n) : mg_wp (mg_KM (L, xs) shO) mc_law (d + 821) 1378 [some (.ref 1000002), some (.ref 0), some (.ref 148), some (.ref 169), some (.ref 170), some (.int (Int32.ofNat i)), e6, e7, e8] [] G (lwQ (n + 1)) :=
  lw_19 (S' := S) (a := (q282 (sA S) (xs (i + 1)))) d i n e6 e7 e8 hL hi hr hn (w360 d (xs (i + 1)) (mg_m_mono (c123 d hc (xs (i + 1))) (by omega) (fun _ _ _ h => h)) (g282_ (xs (i + 1)))) (fun G1 h1 => u282 d h1 (xs (i + 1)))
theorem lw_20 (d i n : Nat) (e6 e7 e8 : Option Value) (hL : L ≤ 3072) (hi : i + 6 ≤ L) (hr : rT G S) (hn : lwN L xs (d + 821) i n)
    (hw : mg_m (mg_KM (L, xs) shO) (d + 821) 361 [.ref 0, .int (xs (i + 1)), .ref 169] G (wP9 G S' a))
    (hu : ∀ G1, rT G1 S → mg_m (mg_KM (L, xs) shO) (d + 820) 283 [.ref 148, .int (xs (i + 1))] G1 (rW9 G1 S' a)) :
    mg_wp (mg_KM (L, xs) shO) mc_law (d + 821) 1434 [some (.ref 1000002), some (.ref 0), some (.ref 148), some (.ref 169), some (.ref 170), some (.int (Int32.ofNat i)), e6, e7, e8] [] G (lwQ (n + 1)) := by
  refine mg_goz [3435] 120 1434 ms_law mlz_15 ?_
  repeat (first | refine ⟨_, mg_Fs rfl rfl, ?_⟩ | refine ⟨Or.inl rfl, ?_⟩ | refine ⟨Or.inr ⟨_, rfl⟩, ?_⟩ | refine ⟨fun _ => ?_, fun h => absurd h (by decide)⟩ | refine ⟨fun h => absurd h (by decide), fun _ => ?_⟩)
  refine ⟨_, _, i + 1, mg_Ao (show mm_old L xs 1000002 = some (0, (L, .inl xs)) from rfl) (by decide), mg_ixE (mg_inc i) (by omega), by omega, ?_⟩
  repeat (first | refine ⟨_, mg_Fs rfl rfl, ?_⟩ | refine ⟨Or.inl rfl, ?_⟩ | refine ⟨Or.inr ⟨_, rfl⟩, ?_⟩ | refine ⟨fun _ => ?_, fun h => absurd h (by decide)⟩ | refine ⟨fun h => absurd h (by decide), fun _ => ?_⟩)
  refine mg_m_mono (hw) (by omega) ?_
  rintro o q G1 ⟨rfl, hq, hT1, hF1, hv⟩
  repeat (first | refine ⟨_, mg_Fs rfl rfl, ?_⟩ | refine ⟨Or.inl rfl, ?_⟩ | refine ⟨Or.inr ⟨_, rfl⟩, ?_⟩ | refine ⟨fun _ => ?_, fun h => absurd h (by decide)⟩ | refine ⟨fun h => absurd h (by decide), fun _ => ?_⟩)
  refine ⟨_, _, i + 1, mg_Ao (show mm_old L xs 1000002 = some (0, (L, .inl xs)) from rfl) (by decide), mg_ixE (mg_inc i) (by omega), by omega, ?_⟩
  repeat (first | refine ⟨_, mg_Fs rfl rfl, ?_⟩ | refine ⟨Or.inl rfl, ?_⟩ | refine ⟨Or.inr ⟨_, rfl⟩, ?_⟩ | refine ⟨fun _ => ?_, fun h => absurd h (by decide)⟩ | refine ⟨fun h => absurd h (by decide), fun _ => ?_⟩)
  refine mg_m_mono (hu G1 (hr.fo hF1)) (by omega) ?_
  rintro o q2 G2 ⟨rfl, rfl, hT2, hF2, h10⟩
  repeat (first | refine ⟨_, mg_Fs rfl rfl, ?_⟩ | refine ⟨Or.inl rfl, ?_⟩ | refine ⟨Or.inr ⟨_, rfl⟩, ?_⟩ | refine ⟨fun _ => ?_, fun h => absurd h (by decide)⟩ | refine ⟨fun h => absurd h (by decide), fun _ => ?_⟩)
  refine mg_cv (r174 0 h10) (by omega) ?_
  repeat (first | refine ⟨_, mg_Fs rfl rfl, ?_⟩ | refine ⟨Or.inl rfl, ?_⟩ | refine ⟨Or.inr ⟨_, rfl⟩, ?_⟩ | refine ⟨fun _ => ?_, fun h => absurd h (by decide)⟩ | refine ⟨fun h => absurd h (by decide), fun _ => ?_⟩)
  refine ⟨fun _ => ?_, fun z => absurd rfl z⟩
  refine ⟨fun z => ?_, fun z => ?_⟩
  · exact hn.go (hT1.rF hF2) hT2 hq (fun o j G3 w => ⟨w.1, w.2⟩)
  · refine ⟨1, _, 0, mg_Al rfl (by decide), ⟨by decide, by decide⟩, by decide, ?_⟩
    refine ⟨fun z2 => ?_, fun z2 => ?_⟩
    · exact hn.go (hT1.rF hF2) hT2 hq (fun o j G3 w => ⟨w.1, w.2⟩)
    · exact (z2 ((lg_cmp_eq _ _).mpr ((congrFun (hF2 169 (Or.inr (by decide))).2.1 0).trans (hv z)))).elim
theorem lx_20 (d i n : Nat) (e6 e7 e8 : Option Value) (hL : L ≤ 3072) (hi : i + 6 ≤ L) (hc : cT G S) (hr : rT G S) (hn : lwN L xs (d + 821) i n) : mg_wp (mg_KM (L, xs) shO) mc_law (d + 821) 1434 [some (.ref 1000002), some (.ref 0), some (.ref 148), some (.ref 169), some (.ref 170), some (.int (Int32.ofNat i)), e6, e7, e8] [] G (lwQ (n + 1)) :=
  lw_20 (S' := S) (a := (q283 (sA S) (xs (i + 1)))) d i n e6 e7 e8 hL hi hr hn (w361 d (xs (i + 1)) (mg_m_mono (c124 d hc (xs (i + 1))) (by omega) (fun _ _ _ h => h)) (g283_ (xs (i + 1)))) (fun G1 h1 => u283 d h1 (xs (i + 1)))
theorem lw_21 {a : Int32 × UInt64} (d i n : Nat) (e6 e7 e8 : Option Value) (hL : L ≤ 3072) (hi : i + 6 ≤ L) (hr : rT G S) (hn : lwN L xs (d + 821) i n)
    (hw : mg_m (mg_KM (L, xs) shO) (d + 821) 362 [.ref 0, .int (xs (i + 1)), .ref 170] G (wD9 G S' a))
    (hu : ∀ G1, rT G1 S → mg_m (mg_KM (L, xs) shO) (d + 820) 285 [.ref 148, .int (xs (i + 1))] G1 (rW8 G1 S' a)) :
    mg_wp (mg_KM (L, xs) shO) mc_law (d + 821) 1490 [some (.ref 1000002), some (.ref 0), some (.ref 148), some (.ref 169), some (.ref 170), some (.int (Int32.ofNat i)), e6, e7, e8] [] G (lwQ (n + 1)) := by
  refine mg_goz [3435] 120 1490 ms_law mlz_16 ?_
  repeat (first | refine ⟨_, mg_Fs rfl rfl, ?_⟩ | refine ⟨Or.inl rfl, ?_⟩ | refine ⟨Or.inr ⟨_, rfl⟩, ?_⟩ | refine ⟨fun _ => ?_, fun h => absurd h (by decide)⟩ | refine ⟨fun h => absurd h (by decide), fun _ => ?_⟩)
  refine ⟨_, _, i + 1, mg_Ao (show mm_old L xs 1000002 = some (0, (L, .inl xs)) from rfl) (by decide), mg_ixE (mg_inc i) (by omega), by omega, ?_⟩
  repeat (first | refine ⟨_, mg_Fs rfl rfl, ?_⟩ | refine ⟨Or.inl rfl, ?_⟩ | refine ⟨Or.inr ⟨_, rfl⟩, ?_⟩ | refine ⟨fun _ => ?_, fun h => absurd h (by decide)⟩ | refine ⟨fun h => absurd h (by decide), fun _ => ?_⟩)
  refine mg_m_mono (hw) (by omega) ?_
  rintro o q G1 ⟨rfl, hq, hT1, hF1, hv⟩
  repeat (first | refine ⟨_, mg_Fs rfl rfl, ?_⟩ | refine ⟨Or.inl rfl, ?_⟩ | refine ⟨Or.inr ⟨_, rfl⟩, ?_⟩ | refine ⟨fun _ => ?_, fun h => absurd h (by decide)⟩ | refine ⟨fun h => absurd h (by decide), fun _ => ?_⟩)
  refine ⟨_, _, i + 1, mg_Ao (show mm_old L xs 1000002 = some (0, (L, .inl xs)) from rfl) (by decide), mg_ixE (mg_inc i) (by omega), by omega, ?_⟩
  repeat (first | refine ⟨_, mg_Fs rfl rfl, ?_⟩ | refine ⟨Or.inl rfl, ?_⟩ | refine ⟨Or.inr ⟨_, rfl⟩, ?_⟩ | refine ⟨fun _ => ?_, fun h => absurd h (by decide)⟩ | refine ⟨fun h => absurd h (by decide), fun _ => ?_⟩)
  refine mg_m_mono (hu G1 (hr.fo hF1)) (by omega) ?_
  rintro o q2 G2 ⟨rfl, rfl, hT2, hF2, h10⟩
  repeat (first | refine ⟨_, mg_Fs rfl rfl, ?_⟩ | refine ⟨Or.inl rfl, ?_⟩ | refine ⟨Or.inr ⟨_, rfl⟩, ?_⟩ | refine ⟨fun _ => ?_, fun h => absurd h (by decide)⟩ | refine ⟨fun h => absurd h (by decide), fun _ => ?_⟩)
  refine mg_cv (r174 0 h10) (by omega) ?_
  repeat (first | refine ⟨_, mg_Fs rfl rfl, ?_⟩ | refine ⟨Or.inl rfl, ?_⟩ | refine ⟨Or.inr ⟨_, rfl⟩, ?_⟩ | refine ⟨fun _ => ?_, fun h => absurd h (by decide)⟩ | refine ⟨fun h => absurd h (by decide), fun _ => ?_⟩)
  refine ⟨fun _ => ?_, fun z => absurd rfl z⟩
  refine ⟨fun z => ?_, fun z => ?_⟩
  · exact hn.go (hT1.rF hF2) hT2 hq (fun o j G3 w => ⟨w.1, w.2⟩)
  · have hz : G2.2.2.1 170 0 = a.2 := (congrFun (hF2 170 (Or.inr (by decide))).2.2.1 0).trans (hv z)
    refine ⟨1, _, 0, mg_Ad rfl (by decide), ⟨by decide, by decide⟩, by decide, ?_⟩
    rw [hz]
    refine ⟨fun z2 => ?_, fun z2 => ?_⟩
    · exact hn.go (hT1.rF hF2) hT2 hq (fun o j G3 w => ⟨w.1, w.2⟩)
    · refine ⟨1, _, 0, mg_Ad rfl (by decide), ⟨by decide, by decide⟩, by decide, ?_⟩
      refine ⟨1, _, 0, mg_Ad rfl (by decide), ⟨by decide, by decide⟩, by decide, ?_⟩
      rw [hz]
      refine ⟨fun z3 => absurd z3 z2, fun z3 => ?_⟩
      refine ⟨fun z4 => ?_, fun z4 => absurd z4 z2⟩
      exact hn.go (hT1.rF hF2) hT2 hq (fun o j G3 w => ⟨w.1, w.2⟩)
theorem lx_21 (d i n : Nat) (e6 e7 e8 : Option Value) (hL : L ≤ 3072) (hi : i + 6 ≤ L) (hc : cT G S) (hr : rT G S) (hn : lwN L xs (d + 821) i n) : mg_wp (mg_KM (L, xs) shO) mc_law (d + 821) 1490 [some (.ref 1000002), some (.ref 0), some (.ref 148), some (.ref 169), some (.ref 170), some (.int (Int32.ofNat i)), e6, e7, e8] [] G (lwQ (n + 1)) :=
  lw_21 (S' := S) (a := (q285 (sA S) (xs (i + 1)))) d i n e6 e7 e8 hL hi hr hn (w362 d (xs (i + 1)) (mg_m_mono (c125 d hc (xs (i + 1))) (by omega) (fun _ _ _ h => h)) (g285_ (xs (i + 1)))) (fun G1 h1 => u285 d h1 (xs (i + 1)))
theorem lw_22 (d i n : Nat) (e6 e7 e8 : Option Value) (hL : L ≤ 3072) (hi : i + 6 ≤ L) (hr : rT G S) (hn : lwN L xs (d + 821) i n)
    (hw : mg_m (mg_KM (L, xs) shO) (d + 821) 363 [.ref 0, .int (xs (i + 1)), .int (xs (i + 2)), .ref 169] G (wB9 G S' a))
    (hu : ∀ G1, rT G1 S → mg_m (mg_KM (L, xs) shO) (d + 820) 286 [.ref 148, .int (xs (i + 1)), .int (xs (i + 2))] G1 (rW9 G1 S' a)) :
    mg_wp (mg_KM (L, xs) shO) mc_law (d + 821) 1567 [some (.ref 1000002), some (.ref 0), some (.ref 148), some (.ref 169), some (.ref 170), some (.int (Int32.ofNat i)), e6, e7, e8] [] G (lwQ (n + 1)) := by
  refine mg_goz [3435] 120 1567 ms_law mlz_17 ?_
  repeat (first | refine ⟨_, mg_Fs rfl rfl, ?_⟩ | refine ⟨Or.inl rfl, ?_⟩ | refine ⟨Or.inr ⟨_, rfl⟩, ?_⟩ | refine ⟨fun _ => ?_, fun h => absurd h (by decide)⟩ | refine ⟨fun h => absurd h (by decide), fun _ => ?_⟩)
  refine ⟨_, _, i + 1, mg_Ao (show mm_old L xs 1000002 = some (0, (L, .inl xs)) from rfl) (by decide), mg_ixE (mg_inc i) (by omega), by omega, ?_⟩
  repeat (first | refine ⟨_, mg_Fs rfl rfl, ?_⟩ | refine ⟨Or.inl rfl, ?_⟩ | refine ⟨Or.inr ⟨_, rfl⟩, ?_⟩ | refine ⟨fun _ => ?_, fun h => absurd h (by decide)⟩ | refine ⟨fun h => absurd h (by decide), fun _ => ?_⟩)
  refine ⟨_, _, i + 2, mg_Ao (show mm_old L xs 1000002 = some (0, (L, .inl xs)) from rfl) (by decide), mg_ixE ((Int32.ofNat_add i 2).symm) (by omega), by omega, ?_⟩
  repeat (first | refine ⟨_, mg_Fs rfl rfl, ?_⟩ | refine ⟨Or.inl rfl, ?_⟩ | refine ⟨Or.inr ⟨_, rfl⟩, ?_⟩ | refine ⟨fun _ => ?_, fun h => absurd h (by decide)⟩ | refine ⟨fun h => absurd h (by decide), fun _ => ?_⟩)
  refine mg_m_mono (hw) (by omega) ?_
  rintro o q G1 ⟨rfl, hq, hT1, hF1, hv⟩
  repeat (first | refine ⟨_, mg_Fs rfl rfl, ?_⟩ | refine ⟨Or.inl rfl, ?_⟩ | refine ⟨Or.inr ⟨_, rfl⟩, ?_⟩ | refine ⟨fun _ => ?_, fun h => absurd h (by decide)⟩ | refine ⟨fun h => absurd h (by decide), fun _ => ?_⟩)
  refine ⟨_, _, i + 1, mg_Ao (show mm_old L xs 1000002 = some (0, (L, .inl xs)) from rfl) (by decide), mg_ixE (mg_inc i) (by omega), by omega, ?_⟩
  repeat (first | refine ⟨_, mg_Fs rfl rfl, ?_⟩ | refine ⟨Or.inl rfl, ?_⟩ | refine ⟨Or.inr ⟨_, rfl⟩, ?_⟩ | refine ⟨fun _ => ?_, fun h => absurd h (by decide)⟩ | refine ⟨fun h => absurd h (by decide), fun _ => ?_⟩)
  refine ⟨_, _, i + 2, mg_Ao (show mm_old L xs 1000002 = some (0, (L, .inl xs)) from rfl) (by decide), mg_ixE ((Int32.ofNat_add i 2).symm) (by omega), by omega, ?_⟩
  repeat (first | refine ⟨_, mg_Fs rfl rfl, ?_⟩ | refine ⟨Or.inl rfl, ?_⟩ | refine ⟨Or.inr ⟨_, rfl⟩, ?_⟩ | refine ⟨fun _ => ?_, fun h => absurd h (by decide)⟩ | refine ⟨fun h => absurd h (by decide), fun _ => ?_⟩)
  refine mg_m_mono (hu G1 (hr.fo hF1)) (by omega) ?_
  rintro o q2 G2 ⟨rfl, rfl, hT2, hF2, h10⟩
  repeat (first | refine ⟨_, mg_Fs rfl rfl, ?_⟩ | refine ⟨Or.inl rfl, ?_⟩ | refine ⟨Or.inr ⟨_, rfl⟩, ?_⟩ | refine ⟨fun _ => ?_, fun h => absurd h (by decide)⟩ | refine ⟨fun h => absurd h (by decide), fun _ => ?_⟩)
  refine mg_cv (r174 0 h10) (by omega) ?_
  repeat (first | refine ⟨_, mg_Fs rfl rfl, ?_⟩ | refine ⟨Or.inl rfl, ?_⟩ | refine ⟨Or.inr ⟨_, rfl⟩, ?_⟩ | refine ⟨fun _ => ?_, fun h => absurd h (by decide)⟩ | refine ⟨fun h => absurd h (by decide), fun _ => ?_⟩)
  refine ⟨fun _ => ?_, fun z => absurd rfl z⟩
  refine ⟨fun z => ?_, fun z => ?_⟩
  · exact hn.go (hT1.rF hF2) hT2 hq (fun o j G3 w => ⟨w.1, w.2⟩)
  · have hz : G2.2.1 169 0 = if a.2 = 0 then 0 else 1 := (congrFun (hF2 169 (Or.inr (by decide))).2.1 0).trans (hv z)
    refine ⟨1, _, 0, mg_Al rfl (by decide), ⟨by decide, by decide⟩, by decide, ?_⟩
    refine ⟨fun y => ?_, fun y => ?_⟩
    · refine ⟨fun z2 => ?_, fun z2 => ?_⟩
      · exact hn.go (hT1.rF hF2) hT2 hq (fun o j G3 w => ⟨w.1, w.2⟩)
      · exact (z2 ((lg_cmp_eq _ _).mpr (hz.trans (if_pos y)))).elim
    · refine ⟨fun z2 => ?_, fun z2 => ?_⟩
      · exact hn.go (hT1.rF hF2) hT2 hq (fun o j G3 w => ⟨w.1, w.2⟩)
      · exact (z2 ((lg_cmp_eq _ _).mpr (hz.trans (if_neg y)))).elim
theorem lx_22 (d i n : Nat) (e6 e7 e8 : Option Value) (hL : L ≤ 3072) (hi : i + 6 ≤ L) (hc : cT G S) (hr : rT G S) (hn : lwN L xs (d + 821) i n) : mg_wp (mg_KM (L, xs) shO) mc_law (d + 821) 1567 [some (.ref 1000002), some (.ref 0), some (.ref 148), some (.ref 169), some (.ref 170), some (.int (Int32.ofNat i)), e6, e7, e8] [] G (lwQ (n + 1)) :=
  lw_22 (S' := S) (a := (q286 (sA S) (xs (i + 1)) (xs (i + 2)))) d i n e6 e7 e8 hL hi hr hn (w363 d (xs (i + 1)) (xs (i + 2)) (mg_m_mono (c126 d hc (xs (i + 1)) (xs (i + 2))) (by omega) (fun _ _ _ h => h)) (g286_ (xs (i + 1)) (xs (i + 2)))) (fun G1 h1 => u286 d h1 (xs (i + 1)) (xs (i + 2)))
theorem lw_23 (d i n : Nat) (e6 e7 e8 : Option Value) (hL : L ≤ 3072) (hi : i + 6 ≤ L) (hr : rT G S) (hn : lwN L xs (d + 821) i n)
    (hw : mg_m (mg_KM (L, xs) shO) (d + 821) 364 [.ref 0, .int (xs (i + 1)), .int (xs (i + 2)), .ref 169] G (wB9 G S' a))
    (hu : ∀ G1, rT G1 S → mg_m (mg_KM (L, xs) shO) (d + 820) 287 [.ref 148, .int (xs (i + 1)), .int (xs (i + 2))] G1 (rW9 G1 S' a)) :
    mg_wp (mg_KM (L, xs) shO) mc_law (d + 821) 1642 [some (.ref 1000002), some (.ref 0), some (.ref 148), some (.ref 169), some (.ref 170), some (.int (Int32.ofNat i)), e6, e7, e8] [] G (lwQ (n + 1)) := by
  refine mg_goz [3435] 120 1642 ms_law mlz_18 ?_
  repeat (first | refine ⟨_, mg_Fs rfl rfl, ?_⟩ | refine ⟨Or.inl rfl, ?_⟩ | refine ⟨Or.inr ⟨_, rfl⟩, ?_⟩ | refine ⟨fun _ => ?_, fun h => absurd h (by decide)⟩ | refine ⟨fun h => absurd h (by decide), fun _ => ?_⟩)
  refine ⟨_, _, i + 1, mg_Ao (show mm_old L xs 1000002 = some (0, (L, .inl xs)) from rfl) (by decide), mg_ixE (mg_inc i) (by omega), by omega, ?_⟩
  repeat (first | refine ⟨_, mg_Fs rfl rfl, ?_⟩ | refine ⟨Or.inl rfl, ?_⟩ | refine ⟨Or.inr ⟨_, rfl⟩, ?_⟩ | refine ⟨fun _ => ?_, fun h => absurd h (by decide)⟩ | refine ⟨fun h => absurd h (by decide), fun _ => ?_⟩)
  refine ⟨_, _, i + 2, mg_Ao (show mm_old L xs 1000002 = some (0, (L, .inl xs)) from rfl) (by decide), mg_ixE ((Int32.ofNat_add i 2).symm) (by omega), by omega, ?_⟩
  repeat (first | refine ⟨_, mg_Fs rfl rfl, ?_⟩ | refine ⟨Or.inl rfl, ?_⟩ | refine ⟨Or.inr ⟨_, rfl⟩, ?_⟩ | refine ⟨fun _ => ?_, fun h => absurd h (by decide)⟩ | refine ⟨fun h => absurd h (by decide), fun _ => ?_⟩)
  refine mg_m_mono (hw) (by omega) ?_
  rintro o q G1 ⟨rfl, hq, hT1, hF1, hv⟩
  repeat (first | refine ⟨_, mg_Fs rfl rfl, ?_⟩ | refine ⟨Or.inl rfl, ?_⟩ | refine ⟨Or.inr ⟨_, rfl⟩, ?_⟩ | refine ⟨fun _ => ?_, fun h => absurd h (by decide)⟩ | refine ⟨fun h => absurd h (by decide), fun _ => ?_⟩)
  refine ⟨_, _, i + 1, mg_Ao (show mm_old L xs 1000002 = some (0, (L, .inl xs)) from rfl) (by decide), mg_ixE (mg_inc i) (by omega), by omega, ?_⟩
  repeat (first | refine ⟨_, mg_Fs rfl rfl, ?_⟩ | refine ⟨Or.inl rfl, ?_⟩ | refine ⟨Or.inr ⟨_, rfl⟩, ?_⟩ | refine ⟨fun _ => ?_, fun h => absurd h (by decide)⟩ | refine ⟨fun h => absurd h (by decide), fun _ => ?_⟩)
  refine ⟨_, _, i + 2, mg_Ao (show mm_old L xs 1000002 = some (0, (L, .inl xs)) from rfl) (by decide), mg_ixE ((Int32.ofNat_add i 2).symm) (by omega), by omega, ?_⟩
  repeat (first | refine ⟨_, mg_Fs rfl rfl, ?_⟩ | refine ⟨Or.inl rfl, ?_⟩ | refine ⟨Or.inr ⟨_, rfl⟩, ?_⟩ | refine ⟨fun _ => ?_, fun h => absurd h (by decide)⟩ | refine ⟨fun h => absurd h (by decide), fun _ => ?_⟩)
  refine mg_m_mono (hu G1 (hr.fo hF1)) (by omega) ?_
  rintro o q2 G2 ⟨rfl, rfl, hT2, hF2, h10⟩
  repeat (first | refine ⟨_, mg_Fs rfl rfl, ?_⟩ | refine ⟨Or.inl rfl, ?_⟩ | refine ⟨Or.inr ⟨_, rfl⟩, ?_⟩ | refine ⟨fun _ => ?_, fun h => absurd h (by decide)⟩ | refine ⟨fun h => absurd h (by decide), fun _ => ?_⟩)
  refine mg_cv (r174 0 h10) (by omega) ?_
  repeat (first | refine ⟨_, mg_Fs rfl rfl, ?_⟩ | refine ⟨Or.inl rfl, ?_⟩ | refine ⟨Or.inr ⟨_, rfl⟩, ?_⟩ | refine ⟨fun _ => ?_, fun h => absurd h (by decide)⟩ | refine ⟨fun h => absurd h (by decide), fun _ => ?_⟩)
  refine ⟨fun _ => ?_, fun z => absurd rfl z⟩
  refine ⟨fun z => ?_, fun z => ?_⟩
  · exact hn.go (hT1.rF hF2) hT2 hq (fun o j G3 w => ⟨w.1, w.2⟩)
  · have hz : G2.2.1 169 0 = if a.2 = 0 then 0 else 1 := (congrFun (hF2 169 (Or.inr (by decide))).2.1 0).trans (hv z)
    refine ⟨1, _, 0, mg_Al rfl (by decide), ⟨by decide, by decide⟩, by decide, ?_⟩
    refine ⟨fun y => ?_, fun y => ?_⟩
    · refine ⟨fun z2 => ?_, fun z2 => ?_⟩
      · exact hn.go (hT1.rF hF2) hT2 hq (fun o j G3 w => ⟨w.1, w.2⟩)
      · exact (z2 ((lg_cmp_eq _ _).mpr (hz.trans (if_pos y)))).elim
    · refine ⟨fun z2 => ?_, fun z2 => ?_⟩
      · exact hn.go (hT1.rF hF2) hT2 hq (fun o j G3 w => ⟨w.1, w.2⟩)
      · exact (z2 ((lg_cmp_eq _ _).mpr (hz.trans (if_neg y)))).elim
theorem lx_23 (d i n : Nat) (e6 e7 e8 : Option Value) (hL : L ≤ 3072) (hi : i + 6 ≤ L) (hc : cT G S) (hr : rT G S) (hn : lwN L xs (d + 821) i n) : mg_wp (mg_KM (L, xs) shO) mc_law (d + 821) 1642 [some (.ref 1000002), some (.ref 0), some (.ref 148), some (.ref 169), some (.ref 170), some (.int (Int32.ofNat i)), e6, e7, e8] [] G (lwQ (n + 1)) :=
  lw_23 (S' := S) (a := (q287 (sA S) (xs (i + 1)) (xs (i + 2)))) d i n e6 e7 e8 hL hi hr hn (w364 d (xs (i + 1)) (xs (i + 2)) (mg_m_mono (c127 d hc (xs (i + 1)) (xs (i + 2))) (by omega) (fun _ _ _ h => h)) (g287_ (xs (i + 1)) (xs (i + 2)))) (fun G1 h1 => u287 d h1 (xs (i + 1)) (xs (i + 2)))
theorem lw_24 (d i n : Nat) (e6 e7 e8 : Option Value) (hL : L ≤ 3072) (hi : i + 6 ≤ L) (hr : rT G S) (hn : lwN L xs (d + 821) i n)
    (hw : mg_m (mg_KM (L, xs) shO) (d + 821) 365 [.ref 0, .int (xs (i + 1)), .int (xs (i + 2)), .ref 169] G (wP9 G S' a))
    (hu : ∀ G1, rT G1 S → mg_m (mg_KM (L, xs) shO) (d + 820) 288 [.ref 148, .int (xs (i + 1)), .int (xs (i + 2))] G1 (rW9 G1 S' a)) :
    mg_wp (mg_KM (L, xs) shO) mc_law (d + 821) 1717 [some (.ref 1000002), some (.ref 0), some (.ref 148), some (.ref 169), some (.ref 170), some (.int (Int32.ofNat i)), e6, e7, e8] [] G (lwQ (n + 1)) := by
  refine mg_goz [3435] 120 1717 ms_law mlz_19 ?_
  repeat (first | refine ⟨_, mg_Fs rfl rfl, ?_⟩ | refine ⟨Or.inl rfl, ?_⟩ | refine ⟨Or.inr ⟨_, rfl⟩, ?_⟩ | refine ⟨fun _ => ?_, fun h => absurd h (by decide)⟩ | refine ⟨fun h => absurd h (by decide), fun _ => ?_⟩)
  refine ⟨_, _, i + 1, mg_Ao (show mm_old L xs 1000002 = some (0, (L, .inl xs)) from rfl) (by decide), mg_ixE (mg_inc i) (by omega), by omega, ?_⟩
  repeat (first | refine ⟨_, mg_Fs rfl rfl, ?_⟩ | refine ⟨Or.inl rfl, ?_⟩ | refine ⟨Or.inr ⟨_, rfl⟩, ?_⟩ | refine ⟨fun _ => ?_, fun h => absurd h (by decide)⟩ | refine ⟨fun h => absurd h (by decide), fun _ => ?_⟩)
  refine ⟨_, _, i + 2, mg_Ao (show mm_old L xs 1000002 = some (0, (L, .inl xs)) from rfl) (by decide), mg_ixE ((Int32.ofNat_add i 2).symm) (by omega), by omega, ?_⟩
  repeat (first | refine ⟨_, mg_Fs rfl rfl, ?_⟩ | refine ⟨Or.inl rfl, ?_⟩ | refine ⟨Or.inr ⟨_, rfl⟩, ?_⟩ | refine ⟨fun _ => ?_, fun h => absurd h (by decide)⟩ | refine ⟨fun h => absurd h (by decide), fun _ => ?_⟩)
  refine mg_m_mono (hw) (by omega) ?_
  rintro o q G1 ⟨rfl, hq, hT1, hF1, hv⟩
  repeat (first | refine ⟨_, mg_Fs rfl rfl, ?_⟩ | refine ⟨Or.inl rfl, ?_⟩ | refine ⟨Or.inr ⟨_, rfl⟩, ?_⟩ | refine ⟨fun _ => ?_, fun h => absurd h (by decide)⟩ | refine ⟨fun h => absurd h (by decide), fun _ => ?_⟩)
  refine ⟨_, _, i + 1, mg_Ao (show mm_old L xs 1000002 = some (0, (L, .inl xs)) from rfl) (by decide), mg_ixE (mg_inc i) (by omega), by omega, ?_⟩
  repeat (first | refine ⟨_, mg_Fs rfl rfl, ?_⟩ | refine ⟨Or.inl rfl, ?_⟩ | refine ⟨Or.inr ⟨_, rfl⟩, ?_⟩ | refine ⟨fun _ => ?_, fun h => absurd h (by decide)⟩ | refine ⟨fun h => absurd h (by decide), fun _ => ?_⟩)
  refine ⟨_, _, i + 2, mg_Ao (show mm_old L xs 1000002 = some (0, (L, .inl xs)) from rfl) (by decide), mg_ixE ((Int32.ofNat_add i 2).symm) (by omega), by omega, ?_⟩
  repeat (first | refine ⟨_, mg_Fs rfl rfl, ?_⟩ | refine ⟨Or.inl rfl, ?_⟩ | refine ⟨Or.inr ⟨_, rfl⟩, ?_⟩ | refine ⟨fun _ => ?_, fun h => absurd h (by decide)⟩ | refine ⟨fun h => absurd h (by decide), fun _ => ?_⟩)
  refine mg_m_mono (hu G1 (hr.fo hF1)) (by omega) ?_
  rintro o q2 G2 ⟨rfl, rfl, hT2, hF2, h10⟩
  repeat (first | refine ⟨_, mg_Fs rfl rfl, ?_⟩ | refine ⟨Or.inl rfl, ?_⟩ | refine ⟨Or.inr ⟨_, rfl⟩, ?_⟩ | refine ⟨fun _ => ?_, fun h => absurd h (by decide)⟩ | refine ⟨fun h => absurd h (by decide), fun _ => ?_⟩)
  refine mg_cv (r174 0 h10) (by omega) ?_
  repeat (first | refine ⟨_, mg_Fs rfl rfl, ?_⟩ | refine ⟨Or.inl rfl, ?_⟩ | refine ⟨Or.inr ⟨_, rfl⟩, ?_⟩ | refine ⟨fun _ => ?_, fun h => absurd h (by decide)⟩ | refine ⟨fun h => absurd h (by decide), fun _ => ?_⟩)
  refine ⟨fun _ => ?_, fun z => absurd rfl z⟩
  refine ⟨fun z => ?_, fun z => ?_⟩
  · exact hn.go (hT1.rF hF2) hT2 hq (fun o j G3 w => ⟨w.1, w.2⟩)
  · refine ⟨1, _, 0, mg_Al rfl (by decide), ⟨by decide, by decide⟩, by decide, ?_⟩
    refine ⟨fun z2 => ?_, fun z2 => ?_⟩
    · exact hn.go (hT1.rF hF2) hT2 hq (fun o j G3 w => ⟨w.1, w.2⟩)
    · exact (z2 ((lg_cmp_eq _ _).mpr ((congrFun (hF2 169 (Or.inr (by decide))).2.1 0).trans (hv z)))).elim
theorem lx_24 (d i n : Nat) (e6 e7 e8 : Option Value) (hL : L ≤ 3072) (hi : i + 6 ≤ L) (hc : cT G S) (hr : rT G S) (hn : lwN L xs (d + 821) i n) : mg_wp (mg_KM (L, xs) shO) mc_law (d + 821) 1717 [some (.ref 1000002), some (.ref 0), some (.ref 148), some (.ref 169), some (.ref 170), some (.int (Int32.ofNat i)), e6, e7, e8] [] G (lwQ (n + 1)) :=
  lw_24 (S' := S) (a := (q288 (sA S) (xs (i + 1)) (xs (i + 2)))) d i n e6 e7 e8 hL hi hr hn (w365 d (xs (i + 1)) (xs (i + 2)) (mg_m_mono (c128 d hc (xs (i + 1)) (xs (i + 2))) (by omega) (fun _ _ _ h => h)) (g288_ (xs (i + 1)) (xs (i + 2)))) (fun G1 h1 => u288 d h1 (xs (i + 1)) (xs (i + 2)))
theorem lw_25 (d i n : Nat) (e6 e7 e8 : Option Value) (hL : L ≤ 3072) (hi : i + 6 ≤ L) (hr : rT G S) (hn : lwN L xs (d + 821) i n)
    (hw : mg_m (mg_KM (L, xs) shO) (d + 821) 366 [.ref 0, .int (xs (i + 1)), .ref 169] G (wP9 G S' a))
    (hu : ∀ G1, rT G1 S → mg_m (mg_KM (L, xs) shO) (d + 820) 289 [.ref 148, .int (xs (i + 1))] G1 (rW9 G1 S' a)) :
    mg_wp (mg_KM (L, xs) shO) mc_law (d + 821) 1785 [some (.ref 1000002), some (.ref 0), some (.ref 148), some (.ref 169), some (.ref 170), some (.int (Int32.ofNat i)), e6, e7, e8] [] G (lwQ (n + 1)) := by
  refine mg_goz [3435] 120 1785 ms_law mlz_20 ?_
  repeat (first | refine ⟨_, mg_Fs rfl rfl, ?_⟩ | refine ⟨Or.inl rfl, ?_⟩ | refine ⟨Or.inr ⟨_, rfl⟩, ?_⟩ | refine ⟨fun _ => ?_, fun h => absurd h (by decide)⟩ | refine ⟨fun h => absurd h (by decide), fun _ => ?_⟩)
  refine ⟨_, _, i + 1, mg_Ao (show mm_old L xs 1000002 = some (0, (L, .inl xs)) from rfl) (by decide), mg_ixE (mg_inc i) (by omega), by omega, ?_⟩
  repeat (first | refine ⟨_, mg_Fs rfl rfl, ?_⟩ | refine ⟨Or.inl rfl, ?_⟩ | refine ⟨Or.inr ⟨_, rfl⟩, ?_⟩ | refine ⟨fun _ => ?_, fun h => absurd h (by decide)⟩ | refine ⟨fun h => absurd h (by decide), fun _ => ?_⟩)
  refine mg_m_mono (hw) (by omega) ?_
  rintro o q G1 ⟨rfl, hq, hT1, hF1, hv⟩
  repeat (first | refine ⟨_, mg_Fs rfl rfl, ?_⟩ | refine ⟨Or.inl rfl, ?_⟩ | refine ⟨Or.inr ⟨_, rfl⟩, ?_⟩ | refine ⟨fun _ => ?_, fun h => absurd h (by decide)⟩ | refine ⟨fun h => absurd h (by decide), fun _ => ?_⟩)
  refine ⟨_, _, i + 1, mg_Ao (show mm_old L xs 1000002 = some (0, (L, .inl xs)) from rfl) (by decide), mg_ixE (mg_inc i) (by omega), by omega, ?_⟩
  repeat (first | refine ⟨_, mg_Fs rfl rfl, ?_⟩ | refine ⟨Or.inl rfl, ?_⟩ | refine ⟨Or.inr ⟨_, rfl⟩, ?_⟩ | refine ⟨fun _ => ?_, fun h => absurd h (by decide)⟩ | refine ⟨fun h => absurd h (by decide), fun _ => ?_⟩)
  refine mg_m_mono (hu G1 (hr.fo hF1)) (by omega) ?_
  rintro o q2 G2 ⟨rfl, rfl, hT2, hF2, h10⟩
  repeat (first | refine ⟨_, mg_Fs rfl rfl, ?_⟩ | refine ⟨Or.inl rfl, ?_⟩ | refine ⟨Or.inr ⟨_, rfl⟩, ?_⟩ | refine ⟨fun _ => ?_, fun h => absurd h (by decide)⟩ | refine ⟨fun h => absurd h (by decide), fun _ => ?_⟩)
  refine mg_cv (r174 0 h10) (by omega) ?_
  repeat (first | refine ⟨_, mg_Fs rfl rfl, ?_⟩ | refine ⟨Or.inl rfl, ?_⟩ | refine ⟨Or.inr ⟨_, rfl⟩, ?_⟩ | refine ⟨fun _ => ?_, fun h => absurd h (by decide)⟩ | refine ⟨fun h => absurd h (by decide), fun _ => ?_⟩)
  refine ⟨fun _ => ?_, fun z => absurd rfl z⟩
  refine ⟨fun z => ?_, fun z => ?_⟩
  · exact hn.go (hT1.rF hF2) hT2 hq (fun o j G3 w => ⟨w.1, w.2⟩)
  · refine ⟨1, _, 0, mg_Al rfl (by decide), ⟨by decide, by decide⟩, by decide, ?_⟩
    refine ⟨fun z2 => ?_, fun z2 => ?_⟩
    · exact hn.go (hT1.rF hF2) hT2 hq (fun o j G3 w => ⟨w.1, w.2⟩)
    · exact (z2 ((lg_cmp_eq _ _).mpr ((congrFun (hF2 169 (Or.inr (by decide))).2.1 0).trans (hv z)))).elim
theorem lx_25 (d i n : Nat) (e6 e7 e8 : Option Value) (hL : L ≤ 3072) (hi : i + 6 ≤ L) (hc : cT G S) (hr : rT G S) (hn : lwN L xs (d + 821) i n) : mg_wp (mg_KM (L, xs) shO) mc_law (d + 821) 1785 [some (.ref 1000002), some (.ref 0), some (.ref 148), some (.ref 169), some (.ref 170), some (.int (Int32.ofNat i)), e6, e7, e8] [] G (lwQ (n + 1)) :=
  lw_25 (S' := S) (a := (q289 (sA S) (xs (i + 1)))) d i n e6 e7 e8 hL hi hr hn (w366 d (xs (i + 1)) (mg_m_mono (c129 d hc (xs (i + 1))) (by omega) (fun _ _ _ h => h)) (g289_ (xs (i + 1)))) (fun G1 h1 => u289 d h1 (xs (i + 1)))
theorem lw_26 (d i n : Nat) (e6 e7 e8 : Option Value) (hL : L ≤ 3072) (hi : i + 6 ≤ L) (hr : rT G S) (hn : lwN L xs (d + 821) i n)
    (hw : mg_m (mg_KM (L, xs) shO) (d + 821) 367 [.ref 0, .int (xs (i + 1)), .int (xs (i + 2)), .ref 169] G (wP9 G S' a))
    (hu : ∀ G1, rT G1 S → mg_m (mg_KM (L, xs) shO) (d + 820) 290 [.ref 148, .int (xs (i + 1)), .int (xs (i + 2))] G1 (rW9 G1 S' a)) :
    mg_wp (mg_KM (L, xs) shO) mc_law (d + 821) 1841 [some (.ref 1000002), some (.ref 0), some (.ref 148), some (.ref 169), some (.ref 170), some (.int (Int32.ofNat i)), e6, e7, e8] [] G (lwQ (n + 1)) := by
  refine mg_goz [3435] 120 1841 ms_law mlz_20 ?_
  repeat (first | refine ⟨_, mg_Fs rfl rfl, ?_⟩ | refine ⟨Or.inl rfl, ?_⟩ | refine ⟨Or.inr ⟨_, rfl⟩, ?_⟩ | refine ⟨fun _ => ?_, fun h => absurd h (by decide)⟩ | refine ⟨fun h => absurd h (by decide), fun _ => ?_⟩)
  refine ⟨_, _, i + 1, mg_Ao (show mm_old L xs 1000002 = some (0, (L, .inl xs)) from rfl) (by decide), mg_ixE (mg_inc i) (by omega), by omega, ?_⟩
  repeat (first | refine ⟨_, mg_Fs rfl rfl, ?_⟩ | refine ⟨Or.inl rfl, ?_⟩ | refine ⟨Or.inr ⟨_, rfl⟩, ?_⟩ | refine ⟨fun _ => ?_, fun h => absurd h (by decide)⟩ | refine ⟨fun h => absurd h (by decide), fun _ => ?_⟩)
  refine ⟨_, _, i + 2, mg_Ao (show mm_old L xs 1000002 = some (0, (L, .inl xs)) from rfl) (by decide), mg_ixE ((Int32.ofNat_add i 2).symm) (by omega), by omega, ?_⟩
  repeat (first | refine ⟨_, mg_Fs rfl rfl, ?_⟩ | refine ⟨Or.inl rfl, ?_⟩ | refine ⟨Or.inr ⟨_, rfl⟩, ?_⟩ | refine ⟨fun _ => ?_, fun h => absurd h (by decide)⟩ | refine ⟨fun h => absurd h (by decide), fun _ => ?_⟩)
  refine mg_m_mono (hw) (by omega) ?_
  rintro o q G1 ⟨rfl, hq, hT1, hF1, hv⟩
  repeat (first | refine ⟨_, mg_Fs rfl rfl, ?_⟩ | refine ⟨Or.inl rfl, ?_⟩ | refine ⟨Or.inr ⟨_, rfl⟩, ?_⟩ | refine ⟨fun _ => ?_, fun h => absurd h (by decide)⟩ | refine ⟨fun h => absurd h (by decide), fun _ => ?_⟩)
  refine ⟨_, _, i + 1, mg_Ao (show mm_old L xs 1000002 = some (0, (L, .inl xs)) from rfl) (by decide), mg_ixE (mg_inc i) (by omega), by omega, ?_⟩
  repeat (first | refine ⟨_, mg_Fs rfl rfl, ?_⟩ | refine ⟨Or.inl rfl, ?_⟩ | refine ⟨Or.inr ⟨_, rfl⟩, ?_⟩ | refine ⟨fun _ => ?_, fun h => absurd h (by decide)⟩ | refine ⟨fun h => absurd h (by decide), fun _ => ?_⟩)
  refine ⟨_, _, i + 2, mg_Ao (show mm_old L xs 1000002 = some (0, (L, .inl xs)) from rfl) (by decide), mg_ixE ((Int32.ofNat_add i 2).symm) (by omega), by omega, ?_⟩
  repeat (first | refine ⟨_, mg_Fs rfl rfl, ?_⟩ | refine ⟨Or.inl rfl, ?_⟩ | refine ⟨Or.inr ⟨_, rfl⟩, ?_⟩ | refine ⟨fun _ => ?_, fun h => absurd h (by decide)⟩ | refine ⟨fun h => absurd h (by decide), fun _ => ?_⟩)
  refine mg_m_mono (hu G1 (hr.fo hF1)) (by omega) ?_
  rintro o q2 G2 ⟨rfl, rfl, hT2, hF2, h10⟩
  repeat (first | refine ⟨_, mg_Fs rfl rfl, ?_⟩ | refine ⟨Or.inl rfl, ?_⟩ | refine ⟨Or.inr ⟨_, rfl⟩, ?_⟩ | refine ⟨fun _ => ?_, fun h => absurd h (by decide)⟩ | refine ⟨fun h => absurd h (by decide), fun _ => ?_⟩)
  refine mg_cv (r174 0 h10) (by omega) ?_
  repeat (first | refine ⟨_, mg_Fs rfl rfl, ?_⟩ | refine ⟨Or.inl rfl, ?_⟩ | refine ⟨Or.inr ⟨_, rfl⟩, ?_⟩ | refine ⟨fun _ => ?_, fun h => absurd h (by decide)⟩ | refine ⟨fun h => absurd h (by decide), fun _ => ?_⟩)
  refine ⟨fun _ => ?_, fun z => absurd rfl z⟩
  refine ⟨fun z => ?_, fun z => ?_⟩
  · exact hn.go (hT1.rF hF2) hT2 hq (fun o j G3 w => ⟨w.1, w.2⟩)
  · refine ⟨1, _, 0, mg_Al rfl (by decide), ⟨by decide, by decide⟩, by decide, ?_⟩
    refine ⟨fun z2 => ?_, fun z2 => ?_⟩
    · exact hn.go (hT1.rF hF2) hT2 hq (fun o j G3 w => ⟨w.1, w.2⟩)
    · exact (z2 ((lg_cmp_eq _ _).mpr ((congrFun (hF2 169 (Or.inr (by decide))).2.1 0).trans (hv z)))).elim
theorem lx_26 (d i n : Nat) (e6 e7 e8 : Option Value) (hL : L ≤ 3072) (hi : i + 6 ≤ L) (hc : cT G S) (hr : rT G S) (hn : lwN L xs (d + 821) i n) : mg_wp (mg_KM (L, xs) shO) mc_law (d + 821) 1841 [some (.ref 1000002), some (.ref 0), some (.ref 148), some (.ref 169), some (.ref 170), some (.int (Int32.ofNat i)), e6, e7, e8] [] G (lwQ (n + 1)) :=
  lw_26 (S' := S) (a := (q290 (sA S) (xs (i + 1)) (xs (i + 2)))) d i n e6 e7 e8 hL hi hr hn (w367 d (xs (i + 1)) (xs (i + 2)) (mg_m_mono (c130 d hc (xs (i + 1)) (xs (i + 2))) (by omega) (fun _ _ _ h => h)) (g290_ (xs (i + 1)) (xs (i + 2)))) (fun G1 h1 => u290 d h1 (xs (i + 1)) (xs (i + 2)))
theorem lw_27 (d i n : Nat) (e6 e7 e8 : Option Value) (hL : L ≤ 3072) (hi : i + 6 ≤ L) (hr : rT G S) (hn : lwN L xs (d + 821) i n)
    (hw : mg_m (mg_KM (L, xs) shO) (d + 821) 368 [.ref 0, .int (xs (i + 1)), .int (xs (i + 2)), .ref 169] G (wP9 G S' a))
    (hu : ∀ G1, rT G1 S → mg_m (mg_KM (L, xs) shO) (d + 820) 293 [.ref 148, .int (xs (i + 1)), .int (xs (i + 2))] G1 (rW9 G1 S' a)) :
    mg_wp (mg_KM (L, xs) shO) mc_law (d + 821) 1909 [some (.ref 1000002), some (.ref 0), some (.ref 148), some (.ref 169), some (.ref 170), some (.int (Int32.ofNat i)), e6, e7, e8] [] G (lwQ (n + 1)) := by
  refine mg_goz [3435] 120 1909 ms_law mlz_21 ?_
  repeat (first | refine ⟨_, mg_Fs rfl rfl, ?_⟩ | refine ⟨Or.inl rfl, ?_⟩ | refine ⟨Or.inr ⟨_, rfl⟩, ?_⟩ | refine ⟨fun _ => ?_, fun h => absurd h (by decide)⟩ | refine ⟨fun h => absurd h (by decide), fun _ => ?_⟩)
  refine ⟨_, _, i + 1, mg_Ao (show mm_old L xs 1000002 = some (0, (L, .inl xs)) from rfl) (by decide), mg_ixE (mg_inc i) (by omega), by omega, ?_⟩
  repeat (first | refine ⟨_, mg_Fs rfl rfl, ?_⟩ | refine ⟨Or.inl rfl, ?_⟩ | refine ⟨Or.inr ⟨_, rfl⟩, ?_⟩ | refine ⟨fun _ => ?_, fun h => absurd h (by decide)⟩ | refine ⟨fun h => absurd h (by decide), fun _ => ?_⟩)
  refine ⟨_, _, i + 2, mg_Ao (show mm_old L xs 1000002 = some (0, (L, .inl xs)) from rfl) (by decide), mg_ixE ((Int32.ofNat_add i 2).symm) (by omega), by omega, ?_⟩
  repeat (first | refine ⟨_, mg_Fs rfl rfl, ?_⟩ | refine ⟨Or.inl rfl, ?_⟩ | refine ⟨Or.inr ⟨_, rfl⟩, ?_⟩ | refine ⟨fun _ => ?_, fun h => absurd h (by decide)⟩ | refine ⟨fun h => absurd h (by decide), fun _ => ?_⟩)
  refine mg_m_mono (hw) (by omega) ?_
  rintro o q G1 ⟨rfl, hq, hT1, hF1, hv⟩
  repeat (first | refine ⟨_, mg_Fs rfl rfl, ?_⟩ | refine ⟨Or.inl rfl, ?_⟩ | refine ⟨Or.inr ⟨_, rfl⟩, ?_⟩ | refine ⟨fun _ => ?_, fun h => absurd h (by decide)⟩ | refine ⟨fun h => absurd h (by decide), fun _ => ?_⟩)
  refine ⟨_, _, i + 1, mg_Ao (show mm_old L xs 1000002 = some (0, (L, .inl xs)) from rfl) (by decide), mg_ixE (mg_inc i) (by omega), by omega, ?_⟩
  repeat (first | refine ⟨_, mg_Fs rfl rfl, ?_⟩ | refine ⟨Or.inl rfl, ?_⟩ | refine ⟨Or.inr ⟨_, rfl⟩, ?_⟩ | refine ⟨fun _ => ?_, fun h => absurd h (by decide)⟩ | refine ⟨fun h => absurd h (by decide), fun _ => ?_⟩)
  refine ⟨_, _, i + 2, mg_Ao (show mm_old L xs 1000002 = some (0, (L, .inl xs)) from rfl) (by decide), mg_ixE ((Int32.ofNat_add i 2).symm) (by omega), by omega, ?_⟩
  repeat (first | refine ⟨_, mg_Fs rfl rfl, ?_⟩ | refine ⟨Or.inl rfl, ?_⟩ | refine ⟨Or.inr ⟨_, rfl⟩, ?_⟩ | refine ⟨fun _ => ?_, fun h => absurd h (by decide)⟩ | refine ⟨fun h => absurd h (by decide), fun _ => ?_⟩)
  refine mg_m_mono (hu G1 (hr.fo hF1)) (by omega) ?_
  rintro o q2 G2 ⟨rfl, rfl, hT2, hF2, h10⟩
  repeat (first | refine ⟨_, mg_Fs rfl rfl, ?_⟩ | refine ⟨Or.inl rfl, ?_⟩ | refine ⟨Or.inr ⟨_, rfl⟩, ?_⟩ | refine ⟨fun _ => ?_, fun h => absurd h (by decide)⟩ | refine ⟨fun h => absurd h (by decide), fun _ => ?_⟩)
  refine mg_cv (r174 0 h10) (by omega) ?_
  repeat (first | refine ⟨_, mg_Fs rfl rfl, ?_⟩ | refine ⟨Or.inl rfl, ?_⟩ | refine ⟨Or.inr ⟨_, rfl⟩, ?_⟩ | refine ⟨fun _ => ?_, fun h => absurd h (by decide)⟩ | refine ⟨fun h => absurd h (by decide), fun _ => ?_⟩)
  refine ⟨fun _ => ?_, fun z => absurd rfl z⟩
  refine ⟨fun z => ?_, fun z => ?_⟩
  · exact hn.go (hT1.rF hF2) hT2 hq (fun o j G3 w => ⟨w.1, w.2⟩)
  · refine ⟨1, _, 0, mg_Al rfl (by decide), ⟨by decide, by decide⟩, by decide, ?_⟩
    refine ⟨fun z2 => ?_, fun z2 => ?_⟩
    · exact hn.go (hT1.rF hF2) hT2 hq (fun o j G3 w => ⟨w.1, w.2⟩)
    · exact (z2 ((lg_cmp_eq _ _).mpr ((congrFun (hF2 169 (Or.inr (by decide))).2.1 0).trans (hv z)))).elim
theorem lx_27 (d i n : Nat) (e6 e7 e8 : Option Value) (hL : L ≤ 3072) (hi : i + 6 ≤ L) (hc : cT G S) (hr : rT G S) (hn : lwN L xs (d + 821) i n) : mg_wp (mg_KM (L, xs) shO) mc_law (d + 821) 1909 [some (.ref 1000002), some (.ref 0), some (.ref 148), some (.ref 169), some (.ref 170), some (.int (Int32.ofNat i)), e6, e7, e8] [] G (lwQ (n + 1)) :=
  lw_27 (S' := S) (a := (q293 (sA S) (xs (i + 1)) (xs (i + 2)))) d i n e6 e7 e8 hL hi hr hn (w368 d (xs (i + 1)) (xs (i + 2)) (mg_m_mono (c131 d hc (xs (i + 1)) (xs (i + 2))) (by omega) (fun _ _ _ h => h)) (g293_ (xs (i + 1)) (xs (i + 2)))) (fun G1 h1 => u293 d h1 (xs (i + 1)) (xs (i + 2)))
theorem lw_28 (d i n : Nat) (e6 e7 e8 : Option Value) (hL : L ≤ 3072) (hi : i + 6 ≤ L) (hr : rT G S) (hn : lwN L xs (d + 821) i n)
    (hw : mg_m (mg_KM (L, xs) shO) (d + 821) 369 [.ref 0, .int (xs (i + 1)), .int (xs (i + 2)), .int (xs (i + 3)), .ref 169] G (wP9 G S' a))
    (hu : ∀ G1, rT G1 S → mg_m (mg_KM (L, xs) shO) (d + 820) 295 [.ref 148, .int (xs (i + 1)), .int (xs (i + 2)), .int (xs (i + 3))] G1 (rW9 G1 S' a)) :
    mg_wp (mg_KM (L, xs) shO) mc_law (d + 821) 1977 [some (.ref 1000002), some (.ref 0), some (.ref 148), some (.ref 169), some (.ref 170), some (.int (Int32.ofNat i)), e6, e7, e8] [] G (lwQ (n + 1)) := by
  refine mg_goz [3435] 120 1977 ms_law mlz_22 ?_
  repeat (first | refine ⟨_, mg_Fs rfl rfl, ?_⟩ | refine ⟨Or.inl rfl, ?_⟩ | refine ⟨Or.inr ⟨_, rfl⟩, ?_⟩ | refine ⟨fun _ => ?_, fun h => absurd h (by decide)⟩ | refine ⟨fun h => absurd h (by decide), fun _ => ?_⟩)
  refine ⟨_, _, i + 1, mg_Ao (show mm_old L xs 1000002 = some (0, (L, .inl xs)) from rfl) (by decide), mg_ixE (mg_inc i) (by omega), by omega, ?_⟩
  repeat (first | refine ⟨_, mg_Fs rfl rfl, ?_⟩ | refine ⟨Or.inl rfl, ?_⟩ | refine ⟨Or.inr ⟨_, rfl⟩, ?_⟩ | refine ⟨fun _ => ?_, fun h => absurd h (by decide)⟩ | refine ⟨fun h => absurd h (by decide), fun _ => ?_⟩)
  refine ⟨_, _, i + 2, mg_Ao (show mm_old L xs 1000002 = some (0, (L, .inl xs)) from rfl) (by decide), mg_ixE ((Int32.ofNat_add i 2).symm) (by omega), by omega, ?_⟩
  repeat (first | refine ⟨_, mg_Fs rfl rfl, ?_⟩ | refine ⟨Or.inl rfl, ?_⟩ | refine ⟨Or.inr ⟨_, rfl⟩, ?_⟩ | refine ⟨fun _ => ?_, fun h => absurd h (by decide)⟩ | refine ⟨fun h => absurd h (by decide), fun _ => ?_⟩)
  refine ⟨_, _, i + 3, mg_Ao (show mm_old L xs 1000002 = some (0, (L, .inl xs)) from rfl) (by decide), mg_ixE ((Int32.ofNat_add i 3).symm) (by omega), by omega, ?_⟩
  repeat (first | refine ⟨_, mg_Fs rfl rfl, ?_⟩ | refine ⟨Or.inl rfl, ?_⟩ | refine ⟨Or.inr ⟨_, rfl⟩, ?_⟩ | refine ⟨fun _ => ?_, fun h => absurd h (by decide)⟩ | refine ⟨fun h => absurd h (by decide), fun _ => ?_⟩)
  refine mg_m_mono (hw) (by omega) ?_
  rintro o q G1 ⟨rfl, hq, hT1, hF1, hv⟩
  repeat (first | refine ⟨_, mg_Fs rfl rfl, ?_⟩ | refine ⟨Or.inl rfl, ?_⟩ | refine ⟨Or.inr ⟨_, rfl⟩, ?_⟩ | refine ⟨fun _ => ?_, fun h => absurd h (by decide)⟩ | refine ⟨fun h => absurd h (by decide), fun _ => ?_⟩)
  refine ⟨_, _, i + 1, mg_Ao (show mm_old L xs 1000002 = some (0, (L, .inl xs)) from rfl) (by decide), mg_ixE (mg_inc i) (by omega), by omega, ?_⟩
  repeat (first | refine ⟨_, mg_Fs rfl rfl, ?_⟩ | refine ⟨Or.inl rfl, ?_⟩ | refine ⟨Or.inr ⟨_, rfl⟩, ?_⟩ | refine ⟨fun _ => ?_, fun h => absurd h (by decide)⟩ | refine ⟨fun h => absurd h (by decide), fun _ => ?_⟩)
  refine ⟨_, _, i + 2, mg_Ao (show mm_old L xs 1000002 = some (0, (L, .inl xs)) from rfl) (by decide), mg_ixE ((Int32.ofNat_add i 2).symm) (by omega), by omega, ?_⟩
  repeat (first | refine ⟨_, mg_Fs rfl rfl, ?_⟩ | refine ⟨Or.inl rfl, ?_⟩ | refine ⟨Or.inr ⟨_, rfl⟩, ?_⟩ | refine ⟨fun _ => ?_, fun h => absurd h (by decide)⟩ | refine ⟨fun h => absurd h (by decide), fun _ => ?_⟩)
  refine ⟨_, _, i + 3, mg_Ao (show mm_old L xs 1000002 = some (0, (L, .inl xs)) from rfl) (by decide), mg_ixE ((Int32.ofNat_add i 3).symm) (by omega), by omega, ?_⟩
  repeat (first | refine ⟨_, mg_Fs rfl rfl, ?_⟩ | refine ⟨Or.inl rfl, ?_⟩ | refine ⟨Or.inr ⟨_, rfl⟩, ?_⟩ | refine ⟨fun _ => ?_, fun h => absurd h (by decide)⟩ | refine ⟨fun h => absurd h (by decide), fun _ => ?_⟩)
  refine mg_m_mono (hu G1 (hr.fo hF1)) (by omega) ?_
  rintro o q2 G2 ⟨rfl, rfl, hT2, hF2, h10⟩
  repeat (first | refine ⟨_, mg_Fs rfl rfl, ?_⟩ | refine ⟨Or.inl rfl, ?_⟩ | refine ⟨Or.inr ⟨_, rfl⟩, ?_⟩ | refine ⟨fun _ => ?_, fun h => absurd h (by decide)⟩ | refine ⟨fun h => absurd h (by decide), fun _ => ?_⟩)
  refine mg_cv (r174 0 h10) (by omega) ?_
  repeat (first | refine ⟨_, mg_Fs rfl rfl, ?_⟩ | refine ⟨Or.inl rfl, ?_⟩ | refine ⟨Or.inr ⟨_, rfl⟩, ?_⟩ | refine ⟨fun _ => ?_, fun h => absurd h (by decide)⟩ | refine ⟨fun h => absurd h (by decide), fun _ => ?_⟩)
  refine ⟨fun _ => ?_, fun z => absurd rfl z⟩
  refine ⟨fun z => ?_, fun z => ?_⟩
  · exact hn.go (hT1.rF hF2) hT2 hq (fun o j G3 w => ⟨w.1, w.2⟩)
  · refine ⟨1, _, 0, mg_Al rfl (by decide), ⟨by decide, by decide⟩, by decide, ?_⟩
    refine ⟨fun z2 => ?_, fun z2 => ?_⟩
    · exact hn.go (hT1.rF hF2) hT2 hq (fun o j G3 w => ⟨w.1, w.2⟩)
    · exact (z2 ((lg_cmp_eq _ _).mpr ((congrFun (hF2 169 (Or.inr (by decide))).2.1 0).trans (hv z)))).elim
theorem lx_28 (d i n : Nat) (e6 e7 e8 : Option Value) (hL : L ≤ 3072) (hi : i + 6 ≤ L) (hc : cT G S) (hr : rT G S) (hn : lwN L xs (d + 821) i n) : mg_wp (mg_KM (L, xs) shO) mc_law (d + 821) 1977 [some (.ref 1000002), some (.ref 0), some (.ref 148), some (.ref 169), some (.ref 170), some (.int (Int32.ofNat i)), e6, e7, e8] [] G (lwQ (n + 1)) :=
  lw_28 (S' := S) (a := (q295 (sA S) (xs (i + 1)) (xs (i + 2)) (xs (i + 3)))) d i n e6 e7 e8 hL hi hr hn (w369 d (xs (i + 1)) (xs (i + 2)) (xs (i + 3)) (mg_m_mono (c132 d hc (xs (i + 1)) (xs (i + 2)) (xs (i + 3))) (by omega) (fun _ _ _ h => h)) (g295_ (xs (i + 1)) (xs (i + 2)) (xs (i + 3)))) (fun G1 h1 => u295 d h1 (xs (i + 1)) (xs (i + 2)) (xs (i + 3)))
theorem lw_29 (d i n : Nat) (e6 e7 e8 : Option Value) (hL : L ≤ 3072) (hi : i + 6 ≤ L) (hr : rT G S) (hn : lwN L xs (d + 821) i n)
    (hw : mg_m (mg_KM (L, xs) shO) (d + 821) 370 [.ref 0, .int (xs (i + 1)), .int (xs (i + 2)), .ref 169] G (wP9 G S' a))
    (hu : ∀ G1, rT G1 S → mg_m (mg_KM (L, xs) shO) (d + 820) 302 [.ref 148, .int (xs (i + 1)), .int (xs (i + 2))] G1 (rW9 G1 S' a)) :
    mg_wp (mg_KM (L, xs) shO) mc_law (d + 821) 2057 [some (.ref 1000002), some (.ref 0), some (.ref 148), some (.ref 169), some (.ref 170), some (.int (Int32.ofNat i)), e6, e7, e8] [] G (lwQ (n + 1)) := by
  refine mg_goz [3435] 120 2057 ms_law mlz_23 ?_
  repeat (first | refine ⟨_, mg_Fs rfl rfl, ?_⟩ | refine ⟨Or.inl rfl, ?_⟩ | refine ⟨Or.inr ⟨_, rfl⟩, ?_⟩ | refine ⟨fun _ => ?_, fun h => absurd h (by decide)⟩ | refine ⟨fun h => absurd h (by decide), fun _ => ?_⟩)
  refine ⟨_, _, i + 1, mg_Ao (show mm_old L xs 1000002 = some (0, (L, .inl xs)) from rfl) (by decide), mg_ixE (mg_inc i) (by omega), by omega, ?_⟩
  repeat (first | refine ⟨_, mg_Fs rfl rfl, ?_⟩ | refine ⟨Or.inl rfl, ?_⟩ | refine ⟨Or.inr ⟨_, rfl⟩, ?_⟩ | refine ⟨fun _ => ?_, fun h => absurd h (by decide)⟩ | refine ⟨fun h => absurd h (by decide), fun _ => ?_⟩)
  refine ⟨_, _, i + 2, mg_Ao (show mm_old L xs 1000002 = some (0, (L, .inl xs)) from rfl) (by decide), mg_ixE ((Int32.ofNat_add i 2).symm) (by omega), by omega, ?_⟩
  repeat (first | refine ⟨_, mg_Fs rfl rfl, ?_⟩ | refine ⟨Or.inl rfl, ?_⟩ | refine ⟨Or.inr ⟨_, rfl⟩, ?_⟩ | refine ⟨fun _ => ?_, fun h => absurd h (by decide)⟩ | refine ⟨fun h => absurd h (by decide), fun _ => ?_⟩)
  refine mg_m_mono (hw) (by omega) ?_
  rintro o q G1 ⟨rfl, hq, hT1, hF1, hv⟩
  repeat (first | refine ⟨_, mg_Fs rfl rfl, ?_⟩ | refine ⟨Or.inl rfl, ?_⟩ | refine ⟨Or.inr ⟨_, rfl⟩, ?_⟩ | refine ⟨fun _ => ?_, fun h => absurd h (by decide)⟩ | refine ⟨fun h => absurd h (by decide), fun _ => ?_⟩)
  refine ⟨_, _, i + 1, mg_Ao (show mm_old L xs 1000002 = some (0, (L, .inl xs)) from rfl) (by decide), mg_ixE (mg_inc i) (by omega), by omega, ?_⟩
  repeat (first | refine ⟨_, mg_Fs rfl rfl, ?_⟩ | refine ⟨Or.inl rfl, ?_⟩ | refine ⟨Or.inr ⟨_, rfl⟩, ?_⟩ | refine ⟨fun _ => ?_, fun h => absurd h (by decide)⟩ | refine ⟨fun h => absurd h (by decide), fun _ => ?_⟩)
  refine ⟨_, _, i + 2, mg_Ao (show mm_old L xs 1000002 = some (0, (L, .inl xs)) from rfl) (by decide), mg_ixE ((Int32.ofNat_add i 2).symm) (by omega), by omega, ?_⟩
  repeat (first | refine ⟨_, mg_Fs rfl rfl, ?_⟩ | refine ⟨Or.inl rfl, ?_⟩ | refine ⟨Or.inr ⟨_, rfl⟩, ?_⟩ | refine ⟨fun _ => ?_, fun h => absurd h (by decide)⟩ | refine ⟨fun h => absurd h (by decide), fun _ => ?_⟩)
  refine mg_m_mono (hu G1 (hr.fo hF1)) (by omega) ?_
  rintro o q2 G2 ⟨rfl, rfl, hT2, hF2, h10⟩
  repeat (first | refine ⟨_, mg_Fs rfl rfl, ?_⟩ | refine ⟨Or.inl rfl, ?_⟩ | refine ⟨Or.inr ⟨_, rfl⟩, ?_⟩ | refine ⟨fun _ => ?_, fun h => absurd h (by decide)⟩ | refine ⟨fun h => absurd h (by decide), fun _ => ?_⟩)
  refine mg_cv (r174 0 h10) (by omega) ?_
  repeat (first | refine ⟨_, mg_Fs rfl rfl, ?_⟩ | refine ⟨Or.inl rfl, ?_⟩ | refine ⟨Or.inr ⟨_, rfl⟩, ?_⟩ | refine ⟨fun _ => ?_, fun h => absurd h (by decide)⟩ | refine ⟨fun h => absurd h (by decide), fun _ => ?_⟩)
  refine ⟨fun _ => ?_, fun z => absurd rfl z⟩
  refine ⟨fun z => ?_, fun z => ?_⟩
  · exact hn.go (hT1.rF hF2) hT2 hq (fun o j G3 w => ⟨w.1, w.2⟩)
  · refine ⟨1, _, 0, mg_Al rfl (by decide), ⟨by decide, by decide⟩, by decide, ?_⟩
    refine ⟨fun z2 => ?_, fun z2 => ?_⟩
    · exact hn.go (hT1.rF hF2) hT2 hq (fun o j G3 w => ⟨w.1, w.2⟩)
    · exact (z2 ((lg_cmp_eq _ _).mpr ((congrFun (hF2 169 (Or.inr (by decide))).2.1 0).trans (hv z)))).elim
theorem lx_29 (d i n : Nat) (e6 e7 e8 : Option Value) (hL : L ≤ 3072) (hi : i + 6 ≤ L) (hc : cT G S) (hr : rT G S) (hn : lwN L xs (d + 821) i n) : mg_wp (mg_KM (L, xs) shO) mc_law (d + 821) 2057 [some (.ref 1000002), some (.ref 0), some (.ref 148), some (.ref 169), some (.ref 170), some (.int (Int32.ofNat i)), e6, e7, e8] [] G (lwQ (n + 1)) :=
  lw_29 (S' := S) (a := (q302 (sA S) (xs (i + 1)) (xs (i + 2)))) d i n e6 e7 e8 hL hi hr hn (w370 d (xs (i + 1)) (xs (i + 2)) (mg_m_mono (c133 d hc (xs (i + 1)) (xs (i + 2))) (by omega) (fun _ _ _ h => h)) (g302_ (xs (i + 1)) (xs (i + 2)))) (fun G1 h1 => u302 d h1 (xs (i + 1)) (xs (i + 2)))
theorem lw_30 (d i n : Nat) (e6 e7 e8 : Option Value) (hL : L ≤ 3072) (hi : i + 6 ≤ L) (hr : rT G S) (hn : lwN L xs (d + 821) i n)
    (hw : mg_m (mg_KM (L, xs) shO) (d + 821) 371 [.ref 0, .int (xs (i + 1)), .ref 169] G (wP9 G S' a))
    (hu : ∀ G1, rT G1 S → mg_m (mg_KM (L, xs) shO) (d + 820) 303 [.ref 148, .int (xs (i + 1))] G1 (rW9 G1 S' a)) :
    mg_wp (mg_KM (L, xs) shO) mc_law (d + 821) 2125 [some (.ref 1000002), some (.ref 0), some (.ref 148), some (.ref 169), some (.ref 170), some (.int (Int32.ofNat i)), e6, e7, e8] [] G (lwQ (n + 1)) := by
  refine mg_goz [3435] 120 2125 ms_law mlz_24 ?_
  repeat (first | refine ⟨_, mg_Fs rfl rfl, ?_⟩ | refine ⟨Or.inl rfl, ?_⟩ | refine ⟨Or.inr ⟨_, rfl⟩, ?_⟩ | refine ⟨fun _ => ?_, fun h => absurd h (by decide)⟩ | refine ⟨fun h => absurd h (by decide), fun _ => ?_⟩)
  refine ⟨_, _, i + 1, mg_Ao (show mm_old L xs 1000002 = some (0, (L, .inl xs)) from rfl) (by decide), mg_ixE (mg_inc i) (by omega), by omega, ?_⟩
  repeat (first | refine ⟨_, mg_Fs rfl rfl, ?_⟩ | refine ⟨Or.inl rfl, ?_⟩ | refine ⟨Or.inr ⟨_, rfl⟩, ?_⟩ | refine ⟨fun _ => ?_, fun h => absurd h (by decide)⟩ | refine ⟨fun h => absurd h (by decide), fun _ => ?_⟩)
  refine mg_m_mono (hw) (by omega) ?_
  rintro o q G1 ⟨rfl, hq, hT1, hF1, hv⟩
  repeat (first | refine ⟨_, mg_Fs rfl rfl, ?_⟩ | refine ⟨Or.inl rfl, ?_⟩ | refine ⟨Or.inr ⟨_, rfl⟩, ?_⟩ | refine ⟨fun _ => ?_, fun h => absurd h (by decide)⟩ | refine ⟨fun h => absurd h (by decide), fun _ => ?_⟩)
  refine ⟨_, _, i + 1, mg_Ao (show mm_old L xs 1000002 = some (0, (L, .inl xs)) from rfl) (by decide), mg_ixE (mg_inc i) (by omega), by omega, ?_⟩
  repeat (first | refine ⟨_, mg_Fs rfl rfl, ?_⟩ | refine ⟨Or.inl rfl, ?_⟩ | refine ⟨Or.inr ⟨_, rfl⟩, ?_⟩ | refine ⟨fun _ => ?_, fun h => absurd h (by decide)⟩ | refine ⟨fun h => absurd h (by decide), fun _ => ?_⟩)
  refine mg_m_mono (hu G1 (hr.fo hF1)) (by omega) ?_
  rintro o q2 G2 ⟨rfl, rfl, hT2, hF2, h10⟩
  repeat (first | refine ⟨_, mg_Fs rfl rfl, ?_⟩ | refine ⟨Or.inl rfl, ?_⟩ | refine ⟨Or.inr ⟨_, rfl⟩, ?_⟩ | refine ⟨fun _ => ?_, fun h => absurd h (by decide)⟩ | refine ⟨fun h => absurd h (by decide), fun _ => ?_⟩)
  refine mg_cv (r174 0 h10) (by omega) ?_
  repeat (first | refine ⟨_, mg_Fs rfl rfl, ?_⟩ | refine ⟨Or.inl rfl, ?_⟩ | refine ⟨Or.inr ⟨_, rfl⟩, ?_⟩ | refine ⟨fun _ => ?_, fun h => absurd h (by decide)⟩ | refine ⟨fun h => absurd h (by decide), fun _ => ?_⟩)
  refine ⟨fun _ => ?_, fun z => absurd rfl z⟩
  refine ⟨fun z => ?_, fun z => ?_⟩
  · exact hn.go (hT1.rF hF2) hT2 hq (fun o j G3 w => ⟨w.1, w.2⟩)
  · refine ⟨1, _, 0, mg_Al rfl (by decide), ⟨by decide, by decide⟩, by decide, ?_⟩
    refine ⟨fun z2 => ?_, fun z2 => ?_⟩
    · exact hn.go (hT1.rF hF2) hT2 hq (fun o j G3 w => ⟨w.1, w.2⟩)
    · exact (z2 ((lg_cmp_eq _ _).mpr ((congrFun (hF2 169 (Or.inr (by decide))).2.1 0).trans (hv z)))).elim
theorem lx_30 (d i n : Nat) (e6 e7 e8 : Option Value) (hL : L ≤ 3072) (hi : i + 6 ≤ L) (hc : cT G S) (hr : rT G S) (hn : lwN L xs (d + 821) i n) : mg_wp (mg_KM (L, xs) shO) mc_law (d + 821) 2125 [some (.ref 1000002), some (.ref 0), some (.ref 148), some (.ref 169), some (.ref 170), some (.int (Int32.ofNat i)), e6, e7, e8] [] G (lwQ (n + 1)) :=
  lw_30 (S' := S) (a := (q303 (sA S) (xs (i + 1)))) d i n e6 e7 e8 hL hi hr hn (w371 d (xs (i + 1)) (mg_m_mono (c134 d hc (xs (i + 1))) (by omega) (fun _ _ _ h => h)) (g303_ (xs (i + 1)))) (fun G1 h1 => u303 d h1 (xs (i + 1)))
theorem lw_31 (d i n : Nat) (e6 e7 e8 : Option Value) (hL : L ≤ 3072) (hi : i + 6 ≤ L) (hr : rT G S) (hn : lwN L xs (d + 821) i n)
    (hw : mg_m (mg_KM (L, xs) shO) (d + 821) 372 [.ref 0, .int (xs (i + 1)), .ref 169] G (wP9 G S' a))
    (hu : ∀ G1, rT G1 S → mg_m (mg_KM (L, xs) shO) (d + 820) 304 [.ref 148, .int (xs (i + 1))] G1 (rW9 G1 S' a)) :
    mg_wp (mg_KM (L, xs) shO) mc_law (d + 821) 2181 [some (.ref 1000002), some (.ref 0), some (.ref 148), some (.ref 169), some (.ref 170), some (.int (Int32.ofNat i)), e6, e7, e8] [] G (lwQ (n + 1)) := by
  refine mg_goz [3435] 120 2181 ms_law mlz_25 ?_
  repeat (first | refine ⟨_, mg_Fs rfl rfl, ?_⟩ | refine ⟨Or.inl rfl, ?_⟩ | refine ⟨Or.inr ⟨_, rfl⟩, ?_⟩ | refine ⟨fun _ => ?_, fun h => absurd h (by decide)⟩ | refine ⟨fun h => absurd h (by decide), fun _ => ?_⟩)
  refine ⟨_, _, i + 1, mg_Ao (show mm_old L xs 1000002 = some (0, (L, .inl xs)) from rfl) (by decide), mg_ixE (mg_inc i) (by omega), by omega, ?_⟩
  repeat (first | refine ⟨_, mg_Fs rfl rfl, ?_⟩ | refine ⟨Or.inl rfl, ?_⟩ | refine ⟨Or.inr ⟨_, rfl⟩, ?_⟩ | refine ⟨fun _ => ?_, fun h => absurd h (by decide)⟩ | refine ⟨fun h => absurd h (by decide), fun _ => ?_⟩)
  refine mg_m_mono (hw) (by omega) ?_
  rintro o q G1 ⟨rfl, hq, hT1, hF1, hv⟩
  repeat (first | refine ⟨_, mg_Fs rfl rfl, ?_⟩ | refine ⟨Or.inl rfl, ?_⟩ | refine ⟨Or.inr ⟨_, rfl⟩, ?_⟩ | refine ⟨fun _ => ?_, fun h => absurd h (by decide)⟩ | refine ⟨fun h => absurd h (by decide), fun _ => ?_⟩)
  refine ⟨_, _, i + 1, mg_Ao (show mm_old L xs 1000002 = some (0, (L, .inl xs)) from rfl) (by decide), mg_ixE (mg_inc i) (by omega), by omega, ?_⟩
  repeat (first | refine ⟨_, mg_Fs rfl rfl, ?_⟩ | refine ⟨Or.inl rfl, ?_⟩ | refine ⟨Or.inr ⟨_, rfl⟩, ?_⟩ | refine ⟨fun _ => ?_, fun h => absurd h (by decide)⟩ | refine ⟨fun h => absurd h (by decide), fun _ => ?_⟩)
  refine mg_m_mono (hu G1 (hr.fo hF1)) (by omega) ?_
  rintro o q2 G2 ⟨rfl, rfl, hT2, hF2, h10⟩
  repeat (first | refine ⟨_, mg_Fs rfl rfl, ?_⟩ | refine ⟨Or.inl rfl, ?_⟩ | refine ⟨Or.inr ⟨_, rfl⟩, ?_⟩ | refine ⟨fun _ => ?_, fun h => absurd h (by decide)⟩ | refine ⟨fun h => absurd h (by decide), fun _ => ?_⟩)
  refine mg_cv (r174 0 h10) (by omega) ?_
  repeat (first | refine ⟨_, mg_Fs rfl rfl, ?_⟩ | refine ⟨Or.inl rfl, ?_⟩ | refine ⟨Or.inr ⟨_, rfl⟩, ?_⟩ | refine ⟨fun _ => ?_, fun h => absurd h (by decide)⟩ | refine ⟨fun h => absurd h (by decide), fun _ => ?_⟩)
  refine ⟨fun _ => ?_, fun z => absurd rfl z⟩
  refine ⟨fun z => ?_, fun z => ?_⟩
  · exact hn.go (hT1.rF hF2) hT2 hq (fun o j G3 w => ⟨w.1, w.2⟩)
  · refine ⟨1, _, 0, mg_Al rfl (by decide), ⟨by decide, by decide⟩, by decide, ?_⟩
    refine ⟨fun z2 => ?_, fun z2 => ?_⟩
    · exact hn.go (hT1.rF hF2) hT2 hq (fun o j G3 w => ⟨w.1, w.2⟩)
    · exact (z2 ((lg_cmp_eq _ _).mpr ((congrFun (hF2 169 (Or.inr (by decide))).2.1 0).trans (hv z)))).elim
theorem lx_31 (d i n : Nat) (e6 e7 e8 : Option Value) (hL : L ≤ 3072) (hi : i + 6 ≤ L) (hc : cT G S) (hr : rT G S) (hn : lwN L xs (d + 821) i n) : mg_wp (mg_KM (L, xs) shO) mc_law (d + 821) 2181 [some (.ref 1000002), some (.ref 0), some (.ref 148), some (.ref 169), some (.ref 170), some (.int (Int32.ofNat i)), e6, e7, e8] [] G (lwQ (n + 1)) :=
  lw_31 (S' := S) (a := (q304 (sA S) (xs (i + 1)))) d i n e6 e7 e8 hL hi hr hn (w372 d (xs (i + 1)) (mg_m_mono (c135 d hc (xs (i + 1))) (by omega) (fun _ _ _ h => h)) (g304_ (xs (i + 1)))) (fun G1 h1 => u304 d h1 (xs (i + 1)))
theorem lw_32 (d i n : Nat) (e6 e7 e8 : Option Value) (hL : L ≤ 3072) (hi : i + 6 ≤ L) (hr : rT G S) (hn : lwN L xs (d + 821) i n)
    (hw : mg_m (mg_KM (L, xs) shO) (d + 821) 373 [.ref 0, .int (xs (i + 1)), .int (xs (i + 2)), .int (xs (i + 3)), .ref 169] G (wP9 G S' a))
    (hu : ∀ G1, rT G1 S → mg_m (mg_KM (L, xs) shO) (d + 820) 307 [.ref 148, .int (xs (i + 1)), .int (xs (i + 2)), .int (xs (i + 3))] G1 (rW9 G1 S' a)) :
    mg_wp (mg_KM (L, xs) shO) mc_law (d + 821) 2237 [some (.ref 1000002), some (.ref 0), some (.ref 148), some (.ref 169), some (.ref 170), some (.int (Int32.ofNat i)), e6, e7, e8] [] G (lwQ (n + 1)) := by
  refine mg_goz [3435] 120 2237 ms_law mlz_25 ?_
  repeat (first | refine ⟨_, mg_Fs rfl rfl, ?_⟩ | refine ⟨Or.inl rfl, ?_⟩ | refine ⟨Or.inr ⟨_, rfl⟩, ?_⟩ | refine ⟨fun _ => ?_, fun h => absurd h (by decide)⟩ | refine ⟨fun h => absurd h (by decide), fun _ => ?_⟩)
  refine ⟨_, _, i + 1, mg_Ao (show mm_old L xs 1000002 = some (0, (L, .inl xs)) from rfl) (by decide), mg_ixE (mg_inc i) (by omega), by omega, ?_⟩
  repeat (first | refine ⟨_, mg_Fs rfl rfl, ?_⟩ | refine ⟨Or.inl rfl, ?_⟩ | refine ⟨Or.inr ⟨_, rfl⟩, ?_⟩ | refine ⟨fun _ => ?_, fun h => absurd h (by decide)⟩ | refine ⟨fun h => absurd h (by decide), fun _ => ?_⟩)
  refine ⟨_, _, i + 2, mg_Ao (show mm_old L xs 1000002 = some (0, (L, .inl xs)) from rfl) (by decide), mg_ixE ((Int32.ofNat_add i 2).symm) (by omega), by omega, ?_⟩
  repeat (first | refine ⟨_, mg_Fs rfl rfl, ?_⟩ | refine ⟨Or.inl rfl, ?_⟩ | refine ⟨Or.inr ⟨_, rfl⟩, ?_⟩ | refine ⟨fun _ => ?_, fun h => absurd h (by decide)⟩ | refine ⟨fun h => absurd h (by decide), fun _ => ?_⟩)
  refine ⟨_, _, i + 3, mg_Ao (show mm_old L xs 1000002 = some (0, (L, .inl xs)) from rfl) (by decide), mg_ixE ((Int32.ofNat_add i 3).symm) (by omega), by omega, ?_⟩
  repeat (first | refine ⟨_, mg_Fs rfl rfl, ?_⟩ | refine ⟨Or.inl rfl, ?_⟩ | refine ⟨Or.inr ⟨_, rfl⟩, ?_⟩ | refine ⟨fun _ => ?_, fun h => absurd h (by decide)⟩ | refine ⟨fun h => absurd h (by decide), fun _ => ?_⟩)
  refine mg_m_mono (hw) (by omega) ?_
  rintro o q G1 ⟨rfl, hq, hT1, hF1, hv⟩
  repeat (first | refine ⟨_, mg_Fs rfl rfl, ?_⟩ | refine ⟨Or.inl rfl, ?_⟩ | refine ⟨Or.inr ⟨_, rfl⟩, ?_⟩ | refine ⟨fun _ => ?_, fun h => absurd h (by decide)⟩ | refine ⟨fun h => absurd h (by decide), fun _ => ?_⟩)
  refine ⟨_, _, i + 1, mg_Ao (show mm_old L xs 1000002 = some (0, (L, .inl xs)) from rfl) (by decide), mg_ixE (mg_inc i) (by omega), by omega, ?_⟩
  repeat (first | refine ⟨_, mg_Fs rfl rfl, ?_⟩ | refine ⟨Or.inl rfl, ?_⟩ | refine ⟨Or.inr ⟨_, rfl⟩, ?_⟩ | refine ⟨fun _ => ?_, fun h => absurd h (by decide)⟩ | refine ⟨fun h => absurd h (by decide), fun _ => ?_⟩)
  refine ⟨_, _, i + 2, mg_Ao (show mm_old L xs 1000002 = some (0, (L, .inl xs)) from rfl) (by decide), mg_ixE ((Int32.ofNat_add i 2).symm) (by omega), by omega, ?_⟩
  repeat (first | refine ⟨_, mg_Fs rfl rfl, ?_⟩ | refine ⟨Or.inl rfl, ?_⟩ | refine ⟨Or.inr ⟨_, rfl⟩, ?_⟩ | refine ⟨fun _ => ?_, fun h => absurd h (by decide)⟩ | refine ⟨fun h => absurd h (by decide), fun _ => ?_⟩)
  refine ⟨_, _, i + 3, mg_Ao (show mm_old L xs 1000002 = some (0, (L, .inl xs)) from rfl) (by decide), mg_ixE ((Int32.ofNat_add i 3).symm) (by omega), by omega, ?_⟩
  repeat (first | refine ⟨_, mg_Fs rfl rfl, ?_⟩ | refine ⟨Or.inl rfl, ?_⟩ | refine ⟨Or.inr ⟨_, rfl⟩, ?_⟩ | refine ⟨fun _ => ?_, fun h => absurd h (by decide)⟩ | refine ⟨fun h => absurd h (by decide), fun _ => ?_⟩)
  refine mg_m_mono (hu G1 (hr.fo hF1)) (by omega) ?_
  rintro o q2 G2 ⟨rfl, rfl, hT2, hF2, h10⟩
  repeat (first | refine ⟨_, mg_Fs rfl rfl, ?_⟩ | refine ⟨Or.inl rfl, ?_⟩ | refine ⟨Or.inr ⟨_, rfl⟩, ?_⟩ | refine ⟨fun _ => ?_, fun h => absurd h (by decide)⟩ | refine ⟨fun h => absurd h (by decide), fun _ => ?_⟩)
  refine mg_cv (r174 0 h10) (by omega) ?_
  repeat (first | refine ⟨_, mg_Fs rfl rfl, ?_⟩ | refine ⟨Or.inl rfl, ?_⟩ | refine ⟨Or.inr ⟨_, rfl⟩, ?_⟩ | refine ⟨fun _ => ?_, fun h => absurd h (by decide)⟩ | refine ⟨fun h => absurd h (by decide), fun _ => ?_⟩)
  refine ⟨fun _ => ?_, fun z => absurd rfl z⟩
  refine ⟨fun z => ?_, fun z => ?_⟩
  · exact hn.go (hT1.rF hF2) hT2 hq (fun o j G3 w => ⟨w.1, w.2⟩)
  · refine ⟨1, _, 0, mg_Al rfl (by decide), ⟨by decide, by decide⟩, by decide, ?_⟩
    refine ⟨fun z2 => ?_, fun z2 => ?_⟩
    · exact hn.go (hT1.rF hF2) hT2 hq (fun o j G3 w => ⟨w.1, w.2⟩)
    · exact (z2 ((lg_cmp_eq _ _).mpr ((congrFun (hF2 169 (Or.inr (by decide))).2.1 0).trans (hv z)))).elim
theorem lx_32 (d i n : Nat) (e6 e7 e8 : Option Value) (hL : L ≤ 3072) (hi : i + 6 ≤ L) (hc : cT G S) (hr : rT G S) (hn : lwN L xs (d + 821) i n) : mg_wp (mg_KM (L, xs) shO) mc_law (d + 821) 2237 [some (.ref 1000002), some (.ref 0), some (.ref 148), some (.ref 169), some (.ref 170), some (.int (Int32.ofNat i)), e6, e7, e8] [] G (lwQ (n + 1)) :=
  lw_32 (S' := ((p307 S (xs (i + 1)) (xs (i + 2)) (xs (i + 3)))).1) (a := ((p307 S (xs (i + 1)) (xs (i + 2)) (xs (i + 3)))).2) d i n e6 e7 e8 hL hi hr hn (w373 d (xs (i + 1)) (xs (i + 2)) (xs (i + 3)) (mg_m_mono (c136 d hc (xs (i + 1)) (xs (i + 2)) (xs (i + 3))) (by omega) (fun _ _ _ h => h)) (g307_ (xs (i + 1)) (xs (i + 2)) (xs (i + 3)))) (fun G1 h1 => u307 d h1 (xs (i + 1)) (xs (i + 2)) (xs (i + 3)))
theorem lw_33 (d i n : Nat) (e6 e7 e8 : Option Value) (hL : L ≤ 3072) (hi : i + 6 ≤ L) (hr : rT G S) (hn : lwN L xs (d + 821) i n)
    (hw : mg_m (mg_KM (L, xs) shO) (d + 821) 374 [.ref 0, .int (xs (i + 1)), .int (xs (i + 2)), .int (xs (i + 3)), .ref 169] G (wP9 G S' a))
    (hu : ∀ G1, rT G1 S → mg_m (mg_KM (L, xs) shO) (d + 820) 308 [.ref 148, .int (xs (i + 1)), .int (xs (i + 2)), .int (xs (i + 3))] G1 (rW9 G1 S' a)) :
    mg_wp (mg_KM (L, xs) shO) mc_law (d + 821) 2317 [some (.ref 1000002), some (.ref 0), some (.ref 148), some (.ref 169), some (.ref 170), some (.int (Int32.ofNat i)), e6, e7, e8] [] G (lwQ (n + 1)) := by
  refine mg_goz [3435] 120 2317 ms_law mlz_27 ?_
  repeat (first | refine ⟨_, mg_Fs rfl rfl, ?_⟩ | refine ⟨Or.inl rfl, ?_⟩ | refine ⟨Or.inr ⟨_, rfl⟩, ?_⟩ | refine ⟨fun _ => ?_, fun h => absurd h (by decide)⟩ | refine ⟨fun h => absurd h (by decide), fun _ => ?_⟩)
  refine ⟨_, _, i + 1, mg_Ao (show mm_old L xs 1000002 = some (0, (L, .inl xs)) from rfl) (by decide), mg_ixE (mg_inc i) (by omega), by omega, ?_⟩
  repeat (first | refine ⟨_, mg_Fs rfl rfl, ?_⟩ | refine ⟨Or.inl rfl, ?_⟩ | refine ⟨Or.inr ⟨_, rfl⟩, ?_⟩ | refine ⟨fun _ => ?_, fun h => absurd h (by decide)⟩ | refine ⟨fun h => absurd h (by decide), fun _ => ?_⟩)
  refine ⟨_, _, i + 2, mg_Ao (show mm_old L xs 1000002 = some (0, (L, .inl xs)) from rfl) (by decide), mg_ixE ((Int32.ofNat_add i 2).symm) (by omega), by omega, ?_⟩
  repeat (first | refine ⟨_, mg_Fs rfl rfl, ?_⟩ | refine ⟨Or.inl rfl, ?_⟩ | refine ⟨Or.inr ⟨_, rfl⟩, ?_⟩ | refine ⟨fun _ => ?_, fun h => absurd h (by decide)⟩ | refine ⟨fun h => absurd h (by decide), fun _ => ?_⟩)
  refine ⟨_, _, i + 3, mg_Ao (show mm_old L xs 1000002 = some (0, (L, .inl xs)) from rfl) (by decide), mg_ixE ((Int32.ofNat_add i 3).symm) (by omega), by omega, ?_⟩
  repeat (first | refine ⟨_, mg_Fs rfl rfl, ?_⟩ | refine ⟨Or.inl rfl, ?_⟩ | refine ⟨Or.inr ⟨_, rfl⟩, ?_⟩ | refine ⟨fun _ => ?_, fun h => absurd h (by decide)⟩ | refine ⟨fun h => absurd h (by decide), fun _ => ?_⟩)
  refine mg_m_mono (hw) (by omega) ?_
  rintro o q G1 ⟨rfl, hq, hT1, hF1, hv⟩
  repeat (first | refine ⟨_, mg_Fs rfl rfl, ?_⟩ | refine ⟨Or.inl rfl, ?_⟩ | refine ⟨Or.inr ⟨_, rfl⟩, ?_⟩ | refine ⟨fun _ => ?_, fun h => absurd h (by decide)⟩ | refine ⟨fun h => absurd h (by decide), fun _ => ?_⟩)
  refine ⟨_, _, i + 1, mg_Ao (show mm_old L xs 1000002 = some (0, (L, .inl xs)) from rfl) (by decide), mg_ixE (mg_inc i) (by omega), by omega, ?_⟩
  repeat (first | refine ⟨_, mg_Fs rfl rfl, ?_⟩ | refine ⟨Or.inl rfl, ?_⟩ | refine ⟨Or.inr ⟨_, rfl⟩, ?_⟩ | refine ⟨fun _ => ?_, fun h => absurd h (by decide)⟩ | refine ⟨fun h => absurd h (by decide), fun _ => ?_⟩)
  refine ⟨_, _, i + 2, mg_Ao (show mm_old L xs 1000002 = some (0, (L, .inl xs)) from rfl) (by decide), mg_ixE ((Int32.ofNat_add i 2).symm) (by omega), by omega, ?_⟩
  repeat (first | refine ⟨_, mg_Fs rfl rfl, ?_⟩ | refine ⟨Or.inl rfl, ?_⟩ | refine ⟨Or.inr ⟨_, rfl⟩, ?_⟩ | refine ⟨fun _ => ?_, fun h => absurd h (by decide)⟩ | refine ⟨fun h => absurd h (by decide), fun _ => ?_⟩)
  refine ⟨_, _, i + 3, mg_Ao (show mm_old L xs 1000002 = some (0, (L, .inl xs)) from rfl) (by decide), mg_ixE ((Int32.ofNat_add i 3).symm) (by omega), by omega, ?_⟩
  repeat (first | refine ⟨_, mg_Fs rfl rfl, ?_⟩ | refine ⟨Or.inl rfl, ?_⟩ | refine ⟨Or.inr ⟨_, rfl⟩, ?_⟩ | refine ⟨fun _ => ?_, fun h => absurd h (by decide)⟩ | refine ⟨fun h => absurd h (by decide), fun _ => ?_⟩)
  refine mg_m_mono (hu G1 (hr.fo hF1)) (by omega) ?_
  rintro o q2 G2 ⟨rfl, rfl, hT2, hF2, h10⟩
  repeat (first | refine ⟨_, mg_Fs rfl rfl, ?_⟩ | refine ⟨Or.inl rfl, ?_⟩ | refine ⟨Or.inr ⟨_, rfl⟩, ?_⟩ | refine ⟨fun _ => ?_, fun h => absurd h (by decide)⟩ | refine ⟨fun h => absurd h (by decide), fun _ => ?_⟩)
  refine mg_cv (r174 0 h10) (by omega) ?_
  repeat (first | refine ⟨_, mg_Fs rfl rfl, ?_⟩ | refine ⟨Or.inl rfl, ?_⟩ | refine ⟨Or.inr ⟨_, rfl⟩, ?_⟩ | refine ⟨fun _ => ?_, fun h => absurd h (by decide)⟩ | refine ⟨fun h => absurd h (by decide), fun _ => ?_⟩)
  refine ⟨fun _ => ?_, fun z => absurd rfl z⟩
  refine ⟨fun z => ?_, fun z => ?_⟩
  · exact hn.go (hT1.rF hF2) hT2 hq (fun o j G3 w => ⟨w.1, w.2⟩)
  · refine ⟨1, _, 0, mg_Al rfl (by decide), ⟨by decide, by decide⟩, by decide, ?_⟩
    refine ⟨fun z2 => ?_, fun z2 => ?_⟩
    · exact hn.go (hT1.rF hF2) hT2 hq (fun o j G3 w => ⟨w.1, w.2⟩)
    · exact (z2 ((lg_cmp_eq _ _).mpr ((congrFun (hF2 169 (Or.inr (by decide))).2.1 0).trans (hv z)))).elim
theorem lx_33 (d i n : Nat) (e6 e7 e8 : Option Value) (hL : L ≤ 3072) (hi : i + 6 ≤ L) (hc : cT G S) (hr : rT G S) (hn : lwN L xs (d + 821) i n) : mg_wp (mg_KM (L, xs) shO) mc_law (d + 821) 2317 [some (.ref 1000002), some (.ref 0), some (.ref 148), some (.ref 169), some (.ref 170), some (.int (Int32.ofNat i)), e6, e7, e8] [] G (lwQ (n + 1)) :=
  lw_33 (S' := ((p308 S (xs (i + 1)) (xs (i + 2)) (xs (i + 3)))).1) (a := ((p308 S (xs (i + 1)) (xs (i + 2)) (xs (i + 3)))).2) d i n e6 e7 e8 hL hi hr hn (w374 d (xs (i + 1)) (xs (i + 2)) (xs (i + 3)) (mg_m_mono (c137 d hc (xs (i + 1)) (xs (i + 2)) (xs (i + 3))) (by omega) (fun _ _ _ h => h)) (g308_ (xs (i + 1)) (xs (i + 2)) (xs (i + 3)))) (fun G1 h1 => u308 d h1 (xs (i + 1)) (xs (i + 2)) (xs (i + 3)))
theorem lw_34 (d i n : Nat) (e6 e7 e8 : Option Value) (hL : L ≤ 3072) (hi : i + 6 ≤ L) (hr : rT G S) (hn : lwN L xs (d + 821) i n)
    (hw : mg_m (mg_KM (L, xs) shO) (d + 821) 375 [.ref 0, .int (xs (i + 1)), .ref 169] G (wP9 G S' a))
    (hu : ∀ G1, rT G1 S → mg_m (mg_KM (L, xs) shO) (d + 820) 309 [.ref 148, .int (xs (i + 1))] G1 (rW9 G1 S' a)) :
    mg_wp (mg_KM (L, xs) shO) mc_law (d + 821) 2397 [some (.ref 1000002), some (.ref 0), some (.ref 148), some (.ref 169), some (.ref 170), some (.int (Int32.ofNat i)), e6, e7, e8] [] G (lwQ (n + 1)) := by
  refine mg_goz [3435] 120 2397 ms_law mlz_28 ?_
  repeat (first | refine ⟨_, mg_Fs rfl rfl, ?_⟩ | refine ⟨Or.inl rfl, ?_⟩ | refine ⟨Or.inr ⟨_, rfl⟩, ?_⟩ | refine ⟨fun _ => ?_, fun h => absurd h (by decide)⟩ | refine ⟨fun h => absurd h (by decide), fun _ => ?_⟩)
  refine ⟨_, _, i + 1, mg_Ao (show mm_old L xs 1000002 = some (0, (L, .inl xs)) from rfl) (by decide), mg_ixE (mg_inc i) (by omega), by omega, ?_⟩
  repeat (first | refine ⟨_, mg_Fs rfl rfl, ?_⟩ | refine ⟨Or.inl rfl, ?_⟩ | refine ⟨Or.inr ⟨_, rfl⟩, ?_⟩ | refine ⟨fun _ => ?_, fun h => absurd h (by decide)⟩ | refine ⟨fun h => absurd h (by decide), fun _ => ?_⟩)
  refine mg_m_mono (hw) (by omega) ?_
  rintro o q G1 ⟨rfl, hq, hT1, hF1, hv⟩
  repeat (first | refine ⟨_, mg_Fs rfl rfl, ?_⟩ | refine ⟨Or.inl rfl, ?_⟩ | refine ⟨Or.inr ⟨_, rfl⟩, ?_⟩ | refine ⟨fun _ => ?_, fun h => absurd h (by decide)⟩ | refine ⟨fun h => absurd h (by decide), fun _ => ?_⟩)
  refine ⟨_, _, i + 1, mg_Ao (show mm_old L xs 1000002 = some (0, (L, .inl xs)) from rfl) (by decide), mg_ixE (mg_inc i) (by omega), by omega, ?_⟩
  repeat (first | refine ⟨_, mg_Fs rfl rfl, ?_⟩ | refine ⟨Or.inl rfl, ?_⟩ | refine ⟨Or.inr ⟨_, rfl⟩, ?_⟩ | refine ⟨fun _ => ?_, fun h => absurd h (by decide)⟩ | refine ⟨fun h => absurd h (by decide), fun _ => ?_⟩)
  refine mg_m_mono (hu G1 (hr.fo hF1)) (by omega) ?_
  rintro o q2 G2 ⟨rfl, rfl, hT2, hF2, h10⟩
  repeat (first | refine ⟨_, mg_Fs rfl rfl, ?_⟩ | refine ⟨Or.inl rfl, ?_⟩ | refine ⟨Or.inr ⟨_, rfl⟩, ?_⟩ | refine ⟨fun _ => ?_, fun h => absurd h (by decide)⟩ | refine ⟨fun h => absurd h (by decide), fun _ => ?_⟩)
  refine mg_cv (r174 0 h10) (by omega) ?_
  repeat (first | refine ⟨_, mg_Fs rfl rfl, ?_⟩ | refine ⟨Or.inl rfl, ?_⟩ | refine ⟨Or.inr ⟨_, rfl⟩, ?_⟩ | refine ⟨fun _ => ?_, fun h => absurd h (by decide)⟩ | refine ⟨fun h => absurd h (by decide), fun _ => ?_⟩)
  refine ⟨fun _ => ?_, fun z => absurd rfl z⟩
  refine ⟨fun z => ?_, fun z => ?_⟩
  · exact hn.go (hT1.rF hF2) hT2 hq (fun o j G3 w => ⟨w.1, w.2⟩)
  · refine ⟨1, _, 0, mg_Al rfl (by decide), ⟨by decide, by decide⟩, by decide, ?_⟩
    refine ⟨fun z2 => ?_, fun z2 => ?_⟩
    · exact hn.go (hT1.rF hF2) hT2 hq (fun o j G3 w => ⟨w.1, w.2⟩)
    · exact (z2 ((lg_cmp_eq _ _).mpr ((congrFun (hF2 169 (Or.inr (by decide))).2.1 0).trans (hv z)))).elim
theorem lx_34 (d i n : Nat) (e6 e7 e8 : Option Value) (hL : L ≤ 3072) (hi : i + 6 ≤ L) (hc : cT G S) (hr : rT G S) (hn : lwN L xs (d + 821) i n) : mg_wp (mg_KM (L, xs) shO) mc_law (d + 821) 2397 [some (.ref 1000002), some (.ref 0), some (.ref 148), some (.ref 169), some (.ref 170), some (.int (Int32.ofNat i)), e6, e7, e8] [] G (lwQ (n + 1)) :=
  lw_34 (S' := ((p309 S (xs (i + 1)))).1) (a := ((p309 S (xs (i + 1)))).2) d i n e6 e7 e8 hL hi hr hn (w375 d (xs (i + 1)) (mg_m_mono (c138 d hc (xs (i + 1))) (by omega) (fun _ _ _ h => h)) (g309_ (xs (i + 1)))) (fun G1 h1 => u309 d h1 (xs (i + 1)))
theorem lw_35 (d i n : Nat) (e6 e7 e8 : Option Value) (hL : L ≤ 3072) (hi : i + 6 ≤ L) (b : Bool) (hb0 : xs (i + 3) = 0 → b = false) (hb1 : ¬ xs (i + 3) = 0 → b = true) (hr : rT G S) (hn : lwN L xs (d + 821) i n)
    (hw : mg_m (mg_KM (L, xs) shO) (d + 821) 376 [.ref 0, .int (xs (i + 1)), .int (xs (i + 2)), .int (if b then 1 else 0), .ref 169] G (wP9 G S' a))
    (hu : ∀ G1, rT G1 S → mg_m (mg_KM (L, xs) shO) (d + 820) 310 [.ref 148, .int (xs (i + 1)), .int (xs (i + 2)), .int (if b then 1 else 0)] G1 (rW9 G1 S' a)) :
    mg_wp (mg_KM (L, xs) shO) mc_law (d + 821) 2453 [some (.ref 1000002), some (.ref 0), some (.ref 148), some (.ref 169), some (.ref 170), some (.int (Int32.ofNat i)), e6, e7, e8] [] G (lwQ (n + 1)) := by
  have g2 : ∀ (q : Nat) (G1 : mg_G), q ≤ 2 → cT G1 S' → cFo G G1 → (a.1 = 0 → G1.2.1 169 0 = a.2.toInt64) → mg_wp (mg_KM (L, xs) shO) mc_law (d + 821) 2513 [some (.ref 1000002), some (.ref 0), some (.ref 148), some (.ref 169), some (.ref 170), some (.int (Int32.ofNat i)), some (.int a.1), e7, e8] [.int (if b then 1 else 0), .int (xs (i + 2)), .int (xs (i + 1)), .ref 148] G1 (fun o k G2 => lwQ (n + 1) o (k + q) G2) := by
    intro q G1 hq hT1 hF1 hv
    refine mg_goz [3435] 120 2513 ms_law mlz_29 ?_
    repeat (first | refine ⟨_, mg_Fs rfl rfl, ?_⟩ | refine ⟨Or.inl rfl, ?_⟩ | refine ⟨Or.inr ⟨_, rfl⟩, ?_⟩ | refine ⟨fun _ => ?_, fun h => absurd h (by decide)⟩ | refine ⟨fun h => absurd h (by decide), fun _ => ?_⟩)
    refine mg_m_mono (hu G1 (hr.fo hF1)) (by omega) ?_
    rintro o q2 G2 ⟨rfl, rfl, hT2, hF2, h10⟩
    repeat (first | refine ⟨_, mg_Fs rfl rfl, ?_⟩ | refine ⟨Or.inl rfl, ?_⟩ | refine ⟨Or.inr ⟨_, rfl⟩, ?_⟩ | refine ⟨fun _ => ?_, fun h => absurd h (by decide)⟩ | refine ⟨fun h => absurd h (by decide), fun _ => ?_⟩)
    refine mg_cv (r174 0 h10) (by omega) ?_
    repeat (first | refine ⟨_, mg_Fs rfl rfl, ?_⟩ | refine ⟨Or.inl rfl, ?_⟩ | refine ⟨Or.inr ⟨_, rfl⟩, ?_⟩ | refine ⟨fun _ => ?_, fun h => absurd h (by decide)⟩ | refine ⟨fun h => absurd h (by decide), fun _ => ?_⟩)
    refine ⟨fun _ => ?_, fun z => absurd rfl z⟩
    refine ⟨fun z => ?_, fun z => ?_⟩
    · exact hn.go (hT1.rF hF2) hT2 hq (fun o j G3 w => ⟨w.1, w.2⟩)
    · refine ⟨1, _, 0, mg_Al rfl (by decide), ⟨by decide, by decide⟩, by decide, ?_⟩
      refine ⟨fun z2 => ?_, fun z2 => ?_⟩
      · exact hn.go (hT1.rF hF2) hT2 hq (fun o j G3 w => ⟨w.1, w.2⟩)
      · exact (z2 ((lg_cmp_eq _ _).mpr ((congrFun (hF2 169 (Or.inr (by decide))).2.1 0).trans (hv z)))).elim
  have g1 : mg_wp (mg_KM (L, xs) shO) mc_law (d + 821) 2480 [some (.ref 1000002), some (.ref 0), some (.ref 148), some (.ref 169), some (.ref 170), some (.int (Int32.ofNat i)), e6, e7, e8] [.int (if b then 1 else 0), .int (xs (i + 2)), .int (xs (i + 1)), .ref 0] G (lwQ (n + 1)) := by
    refine mg_goz [2513] 120 2480 ms_law mlz_29 ?_
    repeat (first | refine ⟨_, mg_Fs rfl rfl, ?_⟩ | refine ⟨Or.inl rfl, ?_⟩ | refine ⟨Or.inr ⟨_, rfl⟩, ?_⟩ | refine ⟨fun _ => ?_, fun h => absurd h (by decide)⟩ | refine ⟨fun h => absurd h (by decide), fun _ => ?_⟩)
    refine mg_m_mono (hw) (by omega) ?_
    rintro o q G1 ⟨rfl, hq, hT1, hF1, hv⟩
    repeat (first | refine ⟨_, mg_Fs rfl rfl, ?_⟩ | refine ⟨Or.inl rfl, ?_⟩ | refine ⟨Or.inr ⟨_, rfl⟩, ?_⟩ | refine ⟨fun _ => ?_, fun h => absurd h (by decide)⟩ | refine ⟨fun h => absurd h (by decide), fun _ => ?_⟩)
    refine ⟨_, _, i + 1, mg_Ao (show mm_old L xs 1000002 = some (0, (L, .inl xs)) from rfl) (by decide), mg_ixE (mg_inc i) (by omega), by omega, ?_⟩
    repeat (first | refine ⟨_, mg_Fs rfl rfl, ?_⟩ | refine ⟨Or.inl rfl, ?_⟩ | refine ⟨Or.inr ⟨_, rfl⟩, ?_⟩ | refine ⟨fun _ => ?_, fun h => absurd h (by decide)⟩ | refine ⟨fun h => absurd h (by decide), fun _ => ?_⟩)
    refine ⟨_, _, i + 2, mg_Ao (show mm_old L xs 1000002 = some (0, (L, .inl xs)) from rfl) (by decide), mg_ixE ((Int32.ofNat_add i 2).symm) (by omega), by omega, ?_⟩
    repeat (first | refine ⟨_, mg_Fs rfl rfl, ?_⟩ | refine ⟨Or.inl rfl, ?_⟩ | refine ⟨Or.inr ⟨_, rfl⟩, ?_⟩ | refine ⟨fun _ => ?_, fun h => absurd h (by decide)⟩ | refine ⟨fun h => absurd h (by decide), fun _ => ?_⟩)
    refine ⟨_, _, i + 3, mg_Ao (show mm_old L xs 1000002 = some (0, (L, .inl xs)) from rfl) (by decide), mg_ixE ((Int32.ofNat_add i 3).symm) (by omega), by omega, ?_⟩
    refine ⟨fun z => ?_, fun z => ?_⟩
    · cases hb0 z
      exact g2 q G1 hq hT1 hF1 hv
    · cases hb1 z
      exact g2 q G1 hq hT1 hF1 hv
  refine mg_goz [2480] 120 2453 ms_law mlz_28 ?_
  repeat (first | refine ⟨_, mg_Fs rfl rfl, ?_⟩ | refine ⟨Or.inl rfl, ?_⟩ | refine ⟨Or.inr ⟨_, rfl⟩, ?_⟩ | refine ⟨fun _ => ?_, fun h => absurd h (by decide)⟩ | refine ⟨fun h => absurd h (by decide), fun _ => ?_⟩)
  refine ⟨_, _, i + 1, mg_Ao (show mm_old L xs 1000002 = some (0, (L, .inl xs)) from rfl) (by decide), mg_ixE (mg_inc i) (by omega), by omega, ?_⟩
  repeat (first | refine ⟨_, mg_Fs rfl rfl, ?_⟩ | refine ⟨Or.inl rfl, ?_⟩ | refine ⟨Or.inr ⟨_, rfl⟩, ?_⟩ | refine ⟨fun _ => ?_, fun h => absurd h (by decide)⟩ | refine ⟨fun h => absurd h (by decide), fun _ => ?_⟩)
  refine ⟨_, _, i + 2, mg_Ao (show mm_old L xs 1000002 = some (0, (L, .inl xs)) from rfl) (by decide), mg_ixE ((Int32.ofNat_add i 2).symm) (by omega), by omega, ?_⟩
  repeat (first | refine ⟨_, mg_Fs rfl rfl, ?_⟩ | refine ⟨Or.inl rfl, ?_⟩ | refine ⟨Or.inr ⟨_, rfl⟩, ?_⟩ | refine ⟨fun _ => ?_, fun h => absurd h (by decide)⟩ | refine ⟨fun h => absurd h (by decide), fun _ => ?_⟩)
  refine ⟨_, _, i + 3, mg_Ao (show mm_old L xs 1000002 = some (0, (L, .inl xs)) from rfl) (by decide), mg_ixE ((Int32.ofNat_add i 3).symm) (by omega), by omega, ?_⟩
  refine ⟨fun z => ?_, fun z => ?_⟩
  · cases hb0 z
    exact g1
  · cases hb1 z
    exact g1
theorem lx_35 (d i n : Nat) (e6 e7 e8 : Option Value) (hL : L ≤ 3072) (hi : i + 6 ≤ L) (hc : cT G S) (hr : rT G S) (hn : lwN L xs (d + 821) i n) : mg_wp (mg_KM (L, xs) shO) mc_law (d + 821) 2453 [some (.ref 1000002), some (.ref 0), some (.ref 148), some (.ref 169), some (.ref 170), some (.int (Int32.ofNat i)), e6, e7, e8] [] G (lwQ (n + 1)) :=
  lw_35 (S' := ((p310 S (xs (i + 1)) (xs (i + 2)) (lwb (xs (i + 3))))).1) (a := ((p310 S (xs (i + 1)) (xs (i + 2)) (lwb (xs (i + 3))))).2) d i n e6 e7 e8 hL hi (lwb (xs (i + 3))) lwb_0 lwb_1 hr hn (w376 d (xs (i + 1)) (xs (i + 2)) (lwb (xs (i + 3))) (mg_m_mono (c139 d hc (xs (i + 1)) (xs (i + 2)) (lwb (xs (i + 3)))) (by omega) (fun _ _ _ h => h)) (g310_ (xs (i + 1)) (xs (i + 2)) (lwb (xs (i + 3))))) (fun G1 h1 => u310 d h1 (xs (i + 1)) (xs (i + 2)) (lwb (xs (i + 3))))
end LW
