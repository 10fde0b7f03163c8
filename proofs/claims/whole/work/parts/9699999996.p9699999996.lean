/-! THE LAW: the cases 36, 37, 38, 39, 40, 41, 42, 43, 44, 45, 46, 47, 48, 49, 50, 51 -/
section LW
variable {L : Nat} {xs : Nat → Int32} {G : mg_G} {S S' : a_S} {a : qR}
theorem lw_36 (d i n : Nat) (e6 e7 e8 : Option Value) (hL : L ≤ 3072) (hi : i + 6 ≤ L) (b : Bool) (hb0 : xs (i + 3) = 0 → b = false) (hb1 : ¬ xs (i + 3) = 0 → b = true) (hr : rT G S) (hn : lwN L xs (d + 821) i n)
    (hw : mg_m (mg_KM (L, xs) shO) (d + 821) 377 [.ref 0, .int (xs (i + 1)), .int (xs (i + 2)), .int (if b then 1 else 0), .ref 169] G (wP9 G S' a))
    (hu : ∀ G1, rT G1 S → mg_m (mg_KM (L, xs) shO) (d + 820) 311 [.ref 148, .int (xs (i + 1)), .int (xs (i + 2)), .int (if b then 1 else 0)] G1 (rW9 G1 S' a)) :
    mg_wp (mg_KM (L, xs) shO) mc_law (d + 821) 2549 [some (.ref 1000002), some (.ref 0), some (.ref 148), some (.ref 169), some (.ref 170), some (.int (Int32.ofNat i)), e6, e7, e8] [] G (lwQ (n + 1)) := by
  have g2 : ∀ (q : Nat) (G1 : mg_G), q ≤ 2 → cT G1 S' → cFo G G1 → (a.1 = 0 → G1.2.1 169 0 = a.2.toInt64) → mg_wp (mg_KM (L, xs) shO) mc_law (d + 821) 2609 [some (.ref 1000002), some (.ref 0), some (.ref 148), some (.ref 169), some (.ref 170), some (.int (Int32.ofNat i)), some (.int a.1), e7, e8] [.int (if b then 1 else 0), .int (xs (i + 2)), .int (xs (i + 1)), .ref 148] G1 (fun o k G2 => lwQ (n + 1) o (k + q) G2) := by
    intro q G1 hq hT1 hF1 hv
    refine mg_goz [3435] 120 2609 ms_law mlz_31 ?_
    repeat (first | refine ⟨_, mg_Fs rfl rfl, ?_⟩ | refine ⟨Or.inl rfl, ?_⟩ | refine ⟨Or.inr ⟨_, rfl⟩, ?_⟩ | refine ⟨fun _ => ?_, fun h => absurd h (by decide)⟩ | refine ⟨fun h => absurd h (by decide), fun _ => ?_⟩)
    refine mg_m_mono (hu G1 (hr.fo hF1)) (by omega) ?_
    rintro o q2 G2 ⟨rfl, rfl, hT2, hF2, h10⟩
    repeat (first | refine ⟨_, mg_Fs rfl rfl, ?_⟩ | refine ⟨Or.inl rfl, ?_⟩ | refine ⟨Or.inr ⟨_, rfl⟩, ?_⟩ | refine ⟨fun _ => ?_, fun h => absurd h (by decide)⟩ | refine ⟨fun h => absurd h (by decide), fun _ => ?_⟩)
    refine mg_cv (r174 0 h10) (by omega) ?_
    repeat (first | refine ⟨_, mg_Fs rfl rfl, ?_⟩ | refine ⟨Or.inl rfl, ?_⟩ | refine ⟨Or.inr ⟨_, rfl⟩, ?_⟩ | refine ⟨fun _ => ?_, fun h => absurd h (by decide)⟩ | refine ⟨fun h => absurd h (by decide), fun _ => ?_⟩)
    refine ⟨fun _ => ?_, fun z => absurd rfl z⟩
    refine ⟨fun z => ?_, fun z => ?_⟩
    · exact hn.go (hT1.rF hF2) hT2 hq (fun o j G3 w => ⟨w.1, w.2⟩)
    · refine ⟨1, _, 0, mg_Al rfl (by decide), ⟨by decide, by decide⟩, by decide, ?_⟩
      refine ⟨fun z2 => ?_, fun z2 => ?_⟩
      · exact hn.go (hT1.rF hF2) hT2 hq (fun o j G3 w => ⟨w.1, w.2⟩)
      · exact (z2 ((lg_cmp_eq _ _).mpr ((congrFun (hF2 169 (Or.inr (by decide))).2.1 0).trans (hv z)))).elim
  have g1 : mg_wp (mg_KM (L, xs) shO) mc_law (d + 821) 2576 [some (.ref 1000002), some (.ref 0), some (.ref 148), some (.ref 169), some (.ref 170), some (.int (Int32.ofNat i)), e6, e7, e8] [.int (if b then 1 else 0), .int (xs (i + 2)), .int (xs (i + 1)), .ref 0] G (lwQ (n + 1)) := by
    refine mg_goz [2609] 120 2576 ms_law mlz_30 ?_
    repeat (first | refine ⟨_, mg_Fs rfl rfl, ?_⟩ | refine ⟨Or.inl rfl, ?_⟩ | refine ⟨Or.inr ⟨_, rfl⟩, ?_⟩ | refine ⟨fun _ => ?_, fun h => absurd h (by decide)⟩ | refine ⟨fun h => absurd h (by decide), fun _ => ?_⟩)
    refine mg_m_mono (hw) (by omega) ?_
    rintro o q G1 ⟨rfl, hq, hT1, hF1, hv⟩
    repeat (first | refine ⟨_, mg_Fs rfl rfl, ?_⟩ | refine ⟨Or.inl rfl, ?_⟩ | refine ⟨Or.inr ⟨_, rfl⟩, ?_⟩ | refine ⟨fun _ => ?_, fun h => absurd h (by decide)⟩ | refine ⟨fun h => absurd h (by decide), fun _ => ?_⟩)
    refine ⟨_, _, i + 1, mg_Ao (show mm_old L xs 1000002 = some (0, (L, .inl xs)) from rfl) (by decide), mg_ixE (mg_inc i) (by omega), by omega, ?_⟩
    repeat (first | refine ⟨_, mg_Fs rfl rfl, ?_⟩ | refine ⟨Or.inl rfl, ?_⟩ | refine ⟨Or.inr ⟨_, rfl⟩, ?_⟩ | refine ⟨fun _ => ?_, fun h => absurd h (by decide)⟩ | refine ⟨fun h => absurd h (by decide), fun _ => ?_⟩)
    refine ⟨_, _, i + 2, mg_Ao (show mm_old L xs 1000002 = some (0, (L, .inl xs)) from rfl) (by decide), mg_ixE ((Int32.ofNat_add i 2).symm) (by omega), by omega, ?_⟩
    repeat (first | refine ⟨_, mg_Fs rfl rfl, ?_⟩ | refine ⟨Or.inl rfl, ?_⟩ | refine ⟨Or.inr ⟨_, rfl⟩, ?_⟩ | refine ⟨fun _ => ?_, fun h => absurd h (by decide)⟩ | refine ⟨fun h => absurd h (by decide), fun _ => ?_⟩)
    refine ⟨_, _, i + 3, mg_Ao (show mm_old L xs 1000002 = some (0, (L, .inl xs)) from rfl) (by decide), mg_ixE ((Int32.ofNat_add i 3).symm) (by omega), by omega, ?_⟩
    refine ⟨fun z => ?_, fun z => ?_⟩
    · cases hb0 z
      exact g2 q G1 hq hT1 hF1 hv
    · cases hb1 z
      exact g2 q G1 hq hT1 hF1 hv
  refine mg_goz [2576] 120 2549 ms_law mlz_30 ?_
  repeat (first | refine ⟨_, mg_Fs rfl rfl, ?_⟩ | refine ⟨Or.inl rfl, ?_⟩ | refine ⟨Or.inr ⟨_, rfl⟩, ?_⟩ | refine ⟨fun _ => ?_, fun h => absurd h (by decide)⟩ | refine ⟨fun h => absurd h (by decide), fun _ => ?_⟩)
  refine ⟨_, _, i + 1, mg_Ao (show mm_old L xs 1000002 = some (0, (L, .inl xs)) from rfl) (by decide), mg_ixE (mg_inc i) (by omega), by omega, ?_⟩
  repeat (first | refine ⟨_, mg_Fs rfl rfl, ?_⟩ | refine ⟨Or.inl rfl, ?_⟩ | refine ⟨Or.inr ⟨_, rfl⟩, ?_⟩ | refine ⟨fun _ => ?_, fun h => absurd h (by decide)⟩ | refine ⟨fun h => absurd h (by decide), fun _ => ?_⟩)
  refine ⟨_, _, i + 2, mg_Ao (show mm_old L xs 1000002 = some (0, (L, .inl xs)) from rfl) (by decide), mg_ixE ((Int32.ofNat_add i 2).symm) (by omega), by omega, ?_⟩
  repeat (first | refine ⟨_, mg_Fs rfl rfl, ?_⟩ | refine ⟨Or.inl rfl, ?_⟩ | refine ⟨Or.inr ⟨_, rfl⟩, ?_⟩ | refine ⟨fun _ => ?_, fun h => absurd h (by decide)⟩ | refine ⟨fun h => absurd h (by decide), fun _ => ?_⟩)
  refine ⟨_, _, i + 3, mg_Ao (show mm_old L xs 1000002 = some (0, (L, .inl xs)) from rfl) (by decide), mg_ixE ((Int32.ofNat_add i 3).symm) (by omega), by omega, ?_⟩
  refine ⟨fun z => ?_, fun z => ?_⟩
  · cases hb0 z
    exact g1
  · cases hb1 z
    exact g1
theorem lx_36 (d i n : Nat) (e6 e7 e8 : Option Value) (hL : L ≤ 3072) (hi : i + 6 ≤ L) (hc : cT G S) (hr : rT G S) (hn : lwN L xs (d + 821) i n) : mg_wp (mg_KM (L, xs) shO) mc_law (d + 821) 2549 [some (.ref 1000002), some (.ref 0), some (.ref 148), some (.ref 169), some (.ref 170), some (.int (Int32.ofNat i)), e6, e7, e8] [] G (lwQ (n + 1)) :=
  lw_36 (S' := ((p311 S (xs (i + 1)) (xs (i + 2)) (lwb (xs (i + 3))))).1) (a := ((p311 S (xs (i + 1)) (xs (i + 2)) (lwb (xs (i + 3))))).2) d i n e6 e7 e8 hL hi (lwb (xs (i + 3))) lwb_0 lwb_1 hr hn (w377 d (xs (i + 1)) (xs (i + 2)) (lwb (xs (i + 3))) (mg_m_mono (c140 d hc (xs (i + 1)) (xs (i + 2)) (lwb (xs (i + 3)))) (by omega) (fun _ _ _ h => h)) (g311_ (xs (i + 1)) (xs (i + 2)) (lwb (xs (i + 3))))) (fun G1 h1 => u311 d h1 (xs (i + 1)) (xs (i + 2)) (lwb (xs (i + 3))))
theorem lw_37 (d i n : Nat) (e6 e7 e8 : Option Value) (hL : L ≤ 3072) (hi : i + 6 ≤ L) (hr : rT G S) (hn : lwN L xs (d + 821) i n)
    (hw : mg_m (mg_KM (L, xs) shO) (d + 821) 378 [.ref 0, .int (xs (i + 1)), .int (xs (i + 2)), .int (xs (i + 3)), .ref 169] G (wP9 G S' a))
    (hu : ∀ G1, rT G1 S → mg_m (mg_KM (L, xs) shO) (d + 820) 312 [.ref 148, .int (xs (i + 1)), .int (xs (i + 2)), .int (xs (i + 3))] G1 (rW9 G1 S' a)) :
    mg_wp (mg_KM (L, xs) shO) mc_law (d + 821) 2645 [some (.ref 1000002), some (.ref 0), some (.ref 148), some (.ref 169), some (.ref 170), some (.int (Int32.ofNat i)), e6, e7, e8] [] G (lwQ (n + 1)) := by
  refine mg_goz [3435] 120 2645 ms_law mlz_31 ?_
  repeat (first | refine ⟨_, mg_Fs rfl rfl, ?_⟩ | refine ⟨Or.inl rfl, ?_⟩ | refine ⟨Or.inr ⟨_, rfl⟩, ?_⟩ | refine ⟨fun _ => ?_, fun h => absurd h (by decide)⟩ | refine ⟨fun h => absurd h (by decide), fun _ => ?_⟩)
  refine ⟨_, _, i + 1, mg_Ao (show mm_old L xs 1000002 = some (0, (L, .inl xs)) from rfl) (by decide), mg_ixE (mg_inc i) (by omega), by omega, ?_⟩
  repeat (first | refine ⟨_, mg_Fs rfl rfl, ?_⟩ | refine ⟨Or.inl rfl, ?_⟩ | refine ⟨Or.inr ⟨_, rfl⟩, ?_⟩ | refine ⟨fun _ => ?_, fun h => absurd h (by decide)⟩ | refine ⟨fun h => absurd h (by decide), fun _ => ?_⟩)
  refine ⟨_, _, i + 2, mg_Ao (show mm_old L xs 1000002 = some (0, (L, .inl xs)) from rfl) (by decide), mg_ixE ((Int32.ofNat_add i 2).symm) (by omega), by omega, ?_⟩
  repeat (first | refine ⟨_, mg_Fs rfl rfl, ?_⟩ | refine ⟨Or.inl rfl, ?_⟩ | refine ⟨Or.inr ⟨_, rfl⟩, ?_⟩ | refine ⟨fun _ => ?_, fun h => absurd h (by decide)⟩ | refine ⟨fun h => absurd h (by decide), fun _ => ?_⟩)
  refine ⟨_, _, i + 3, mg_Ao (show mm_old L xs 1000002 = some (0, (L, .inl xs)) from rfl) (by decide), mg_ixE ((Int32.ofNat_add i 3).symm) (by omega), by omega, ?_⟩
  repeat (first | refine ⟨_, mg_Fs rfl rfl, ?_⟩ | refine ⟨Or.inl rfl, ?_⟩ | refine ⟨Or.inr ⟨_, rfl⟩, ?_⟩ | refine ⟨fun _ => ?_, fun h => absurd h (by decide)⟩ | refine ⟨fun h => absurd h (by decide), fun _ => ?_⟩)
  refine mg_m_mono (hw) (by omega) ?_
  rintro o q G1 ⟨rfl, hq, hT1, hF1, hv⟩
  repeat (first | refine ⟨_, mg_Fs rfl rfl, ?_⟩ | refine ⟨Or.inl rfl, ?_⟩ | refine ⟨Or.inr ⟨_, rfl⟩, ?_⟩ | refine ⟨fun _ => ?_, fun h => absurd h (by decide)⟩ | refine ⟨fun h => absurd h (by decide), fun _ => ?_⟩)
  refine ⟨_, _, i + 1, mg_Ao (show mm_old L xs 1000002 = some (0, (L, .inl xs)) from rfl) (by decide), mg_ixE (mg_inc i) (by omega), by omega, ?_⟩
  repeat (first | refine ⟨_, mg_Fs rfl rfl, ?_⟩ | refine ⟨Or.inl rfl, ?_⟩ | refine ⟨Or.inr ⟨_, rfl⟩, ?_⟩ | refine ⟨fun _ => ?_, fun h => absurd h (by decide)⟩ | refine ⟨fun h => absurd h (by decide), fun _ => ?_⟩)
  refine ⟨_, _, i + 2, mg_Ao (show mm_old L xs 1000002 = some (0, (L, .inl xs)) from rfl) (by decide), mg_ixE ((Int32.ofNat_add i 2).symm) (by omega), by omega, ?_⟩
  repeat (first | refine ⟨_, mg_Fs rfl rfl, ?_⟩ | refine ⟨Or.inl rfl, ?_⟩ | refine ⟨Or.inr ⟨_, rfl⟩, ?_⟩ | refine ⟨fun _ => ?_, fun h => absurd h (by decide)⟩ | refine ⟨fun h => absurd h (by decide), fun _ => ?_⟩)
  refine ⟨_, _, i + 3, mg_Ao (show mm_old L xs 1000002 = some (0, (L, .inl xs)) from rfl) (by decide), mg_ixE ((Int32.ofNat_add i 3).symm) (by omega), by omega, ?_⟩
  repeat (first | refine ⟨_, mg_Fs rfl rfl, ?_⟩ | refine ⟨Or.inl rfl, ?_⟩ | refine ⟨Or.inr ⟨_, rfl⟩, ?_⟩ | refine ⟨fun _ => ?_, fun h => absurd h (by decide)⟩ | refine ⟨fun h => absurd h (by decide), fun _ => ?_⟩)
  refine mg_m_mono (hu G1 (hr.fo hF1)) (by omega) ?_
  rintro o q2 G2 ⟨rfl, rfl, hT2, hF2, h10⟩
  repeat (first | refine ⟨_, mg_Fs rfl rfl, ?_⟩ | refine ⟨Or.inl rfl, ?_⟩ | refine ⟨Or.inr ⟨_, rfl⟩, ?_⟩ | refine ⟨fun _ => ?_, fun h => absurd h (by decide)⟩ | refine ⟨fun h => absurd h (by decide), fun _ => ?_⟩)
  refine mg_cv (r174 0 h10) (by omega) ?_
  repeat (first | refine ⟨_, mg_Fs rfl rfl, ?_⟩ | refine ⟨Or.inl rfl, ?_⟩ | refine ⟨Or.inr ⟨_, rfl⟩, ?_⟩ | refine ⟨fun _ => ?_, fun h => absurd h (by decide)⟩ | refine ⟨fun h => absurd h (by decide), fun _ => ?_⟩)
  refine ⟨fun _ => ?_, fun z => absurd rfl z⟩
  refine ⟨fun z => ?_, fun z => ?_⟩
  · exact hn.go (hT1.rF hF2) hT2 hq (fun o j G3 w => ⟨w.1, w.2⟩)
  · refine ⟨1, _, 0, mg_Al rfl (by decide), ⟨by decide, by decide⟩, by decide, ?_⟩
    refine ⟨fun z2 => ?_, fun z2 => ?_⟩
    · exact hn.go (hT1.rF hF2) hT2 hq (fun o j G3 w => ⟨w.1, w.2⟩)
    · exact (z2 ((lg_cmp_eq _ _).mpr ((congrFun (hF2 169 (Or.inr (by decide))).2.1 0).trans (hv z)))).elim
theorem lx_37 (d i n : Nat) (e6 e7 e8 : Option Value) (hL : L ≤ 3072) (hi : i + 6 ≤ L) (hc : cT G S) (hr : rT G S) (hn : lwN L xs (d + 821) i n) : mg_wp (mg_KM (L, xs) shO) mc_law (d + 821) 2645 [some (.ref 1000002), some (.ref 0), some (.ref 148), some (.ref 169), some (.ref 170), some (.int (Int32.ofNat i)), e6, e7, e8] [] G (lwQ (n + 1)) :=
  lw_37 (S' := ((p312 S (xs (i + 1)) (xs (i + 2)) (xs (i + 3)))).1) (a := ((p312 S (xs (i + 1)) (xs (i + 2)) (xs (i + 3)))).2) d i n e6 e7 e8 hL hi hr hn (w378 d (xs (i + 1)) (xs (i + 2)) (xs (i + 3)) (mg_m_mono (c141 d hc (xs (i + 1)) (xs (i + 2)) (xs (i + 3))) (by omega) (fun _ _ _ h => h)) (g312_ (xs (i + 1)) (xs (i + 2)) (xs (i + 3)))) (fun G1 h1 => u312 d h1 (xs (i + 1)) (xs (i + 2)) (xs (i + 3)))
theorem lw_38 (d i n : Nat) (e6 e7 e8 : Option Value) (hL : L ≤ 3072) (hi : i + 6 ≤ L) (hr : rT G S) (hn : lwN L xs (d + 821) i n)
    (hw : mg_m (mg_KM (L, xs) shO) (d + 821) 379 [.ref 0, .int (xs (i + 1)), .ref 169] G (wP9 G S' a))
    (hu : ∀ G1, rT G1 S → mg_m (mg_KM (L, xs) shO) (d + 820) 314 [.ref 148, .int (xs (i + 1))] G1 (rW9 G1 S' a)) :
    mg_wp (mg_KM (L, xs) shO) mc_law (d + 821) 2725 [some (.ref 1000002), some (.ref 0), some (.ref 148), some (.ref 169), some (.ref 170), some (.int (Int32.ofNat i)), e6, e7, e8] [] G (lwQ (n + 1)) := by
  refine mg_goz [3435] 120 2725 ms_law mlz_32 ?_
  repeat (first | refine ⟨_, mg_Fs rfl rfl, ?_⟩ | refine ⟨Or.inl rfl, ?_⟩ | refine ⟨Or.inr ⟨_, rfl⟩, ?_⟩ | refine ⟨fun _ => ?_, fun h => absurd h (by decide)⟩ | refine ⟨fun h => absurd h (by decide), fun _ => ?_⟩)
  refine ⟨_, _, i + 1, mg_Ao (show mm_old L xs 1000002 = some (0, (L, .inl xs)) from rfl) (by decide), mg_ixE (mg_inc i) (by omega), by omega, ?_⟩
  repeat (first | refine ⟨_, mg_Fs rfl rfl, ?_⟩ | refine ⟨Or.inl rfl, ?_⟩ | refine ⟨Or.inr ⟨_, rfl⟩, ?_⟩ | refine ⟨fun _ => ?_, fun h => absurd h (by decide)⟩ | refine ⟨fun h => absurd h (by decide), fun _ => ?_⟩)
  refine mg_m_mono (hw) (by omega) ?_
  rintro o q G1 ⟨rfl, hq, hT1, hF1, hv⟩
  repeat (first | refine ⟨_, mg_Fs rfl rfl, ?_⟩ | refine ⟨Or.inl rfl, ?_⟩ | refine ⟨Or.inr ⟨_, rfl⟩, ?_⟩ | refine ⟨fun _ => ?_, fun h => absurd h (by decide)⟩ | refine ⟨fun h => absurd h (by decide), fun _ => ?_⟩)
  refine ⟨_, _, i + 1, mg_Ao (show mm_old L xs 1000002 = some (0, (L, .inl xs)) from rfl) (by decide), mg_ixE (mg_inc i) (by omega), by omega, ?_⟩
  repeat (first | refine ⟨_, mg_Fs rfl rfl, ?_⟩ | refine ⟨Or.inl rfl, ?_⟩ | refine ⟨Or.inr ⟨_, rfl⟩, ?_⟩ | refine ⟨fun _ => ?_, fun h => absurd h (by decide)⟩ | refine ⟨fun h => absurd h (by decide), fun _ => ?_⟩)
  refine mg_m_mono (hu G1 (hr.fo hF1)) (by omega) ?_
  rintro o q2 G2 ⟨rfl, rfl, hT2, hF2, h10⟩
  repeat (first | refine ⟨_, mg_Fs rfl rfl, ?_⟩ | refine ⟨Or.inl rfl, ?_⟩ | refine ⟨Or.inr ⟨_, rfl⟩, ?_⟩ | refine ⟨fun _ => ?_, fun h => absurd h (by decide)⟩ | refine ⟨fun h => absurd h (by decide), fun _ => ?_⟩)
  refine mg_cv (r174 0 h10) (by omega) ?_
  repeat (first | refine ⟨_, mg_Fs rfl rfl, ?_⟩ | refine ⟨Or.inl rfl, ?_⟩ | refine ⟨Or.inr ⟨_, rfl⟩, ?_⟩ | refine ⟨fun _ => ?_, fun h => absurd h (by decide)⟩ | refine ⟨fun h => absurd h (by decide), fun _ => ?_⟩)
  refine ⟨fun _ => ?_, fun z => absurd rfl z⟩
  refine ⟨fun z => ?_, fun z => ?_⟩
  · exact hn.go (hT1.rF hF2) hT2 hq (fun o j G3 w => ⟨w.1, w.2⟩)
  · refine ⟨1, _, 0, mg_Al rfl (by decide), ⟨by decide, by decide⟩, by decide, ?_⟩
    refine ⟨fun z2 => ?_, fun z2 => ?_⟩
    · exact hn.go (hT1.rF hF2) hT2 hq (fun o j G3 w => ⟨w.1, w.2⟩)
    · exact (z2 ((lg_cmp_eq _ _).mpr ((congrFun (hF2 169 (Or.inr (by decide))).2.1 0).trans (hv z)))).elim
theorem lx_38 (d i n : Nat) (e6 e7 e8 : Option Value) (hL : L ≤ 3072) (hi : i + 6 ≤ L) (hc : cT G S) (hr : rT G S) (hn : lwN L xs (d + 821) i n) : mg_wp (mg_KM (L, xs) shO) mc_law (d + 821) 2725 [some (.ref 1000002), some (.ref 0), some (.ref 148), some (.ref 169), some (.ref 170), some (.int (Int32.ofNat i)), e6, e7, e8] [] G (lwQ (n + 1)) :=
  lw_38 (S' := ((p314 S (xs (i + 1)))).1) (a := ((p314 S (xs (i + 1)))).2) d i n e6 e7 e8 hL hi hr hn (w379 d (xs (i + 1)) (mg_m_mono (c142 d hc (xs (i + 1))) (by omega) (fun _ _ _ h => h)) (g314_ (xs (i + 1)))) (fun G1 h1 => u314 d h1 (xs (i + 1)))
theorem lw_39 (d i n : Nat) (e6 e7 e8 : Option Value) (hL : L ≤ 3072) (hi : i + 6 ≤ L) (hr : rT G S) (hn : lwN L xs (d + 821) i n)
    (hw : mg_m (mg_KM (L, xs) shO) (d + 821) 380 [.ref 0, .int (xs (i + 1)), .ref 169] G (wP9 G S' a))
    (hu : ∀ G1, rT G1 S → mg_m (mg_KM (L, xs) shO) (d + 820) 315 [.ref 148, .int (xs (i + 1))] G1 (rW9 G1 S' a)) :
    mg_wp (mg_KM (L, xs) shO) mc_law (d + 821) 2781 [some (.ref 1000002), some (.ref 0), some (.ref 148), some (.ref 169), some (.ref 170), some (.int (Int32.ofNat i)), e6, e7, e8] [] G (lwQ (n + 1)) := by
  refine mg_goz [3435] 120 2781 ms_law mlz_33 ?_
  repeat (first | refine ⟨_, mg_Fs rfl rfl, ?_⟩ | refine ⟨Or.inl rfl, ?_⟩ | refine ⟨Or.inr ⟨_, rfl⟩, ?_⟩ | refine ⟨fun _ => ?_, fun h => absurd h (by decide)⟩ | refine ⟨fun h => absurd h (by decide), fun _ => ?_⟩)
  refine ⟨_, _, i + 1, mg_Ao (show mm_old L xs 1000002 = some (0, (L, .inl xs)) from rfl) (by decide), mg_ixE (mg_inc i) (by omega), by omega, ?_⟩
  repeat (first | refine ⟨_, mg_Fs rfl rfl, ?_⟩ | refine ⟨Or.inl rfl, ?_⟩ | refine ⟨Or.inr ⟨_, rfl⟩, ?_⟩ | refine ⟨fun _ => ?_, fun h => absurd h (by decide)⟩ | refine ⟨fun h => absurd h (by decide), fun _ => ?_⟩)
  refine mg_m_mono (hw) (by omega) ?_
  rintro o q G1 ⟨rfl, hq, hT1, hF1, hv⟩
  repeat (first | refine ⟨_, mg_Fs rfl rfl, ?_⟩ | refine ⟨Or.inl rfl, ?_⟩ | refine ⟨Or.inr ⟨_, rfl⟩, ?_⟩ | refine ⟨fun _ => ?_, fun h => absurd h (by decide)⟩ | refine ⟨fun h => absurd h (by decide), fun _ => ?_⟩)
  refine ⟨_, _, i + 1, mg_Ao (show mm_old L xs 1000002 = some (0, (L, .inl xs)) from rfl) (by decide), mg_ixE (mg_inc i) (by omega), by omega, ?_⟩
  repeat (first | refine ⟨_, mg_Fs rfl rfl, ?_⟩ | refine ⟨Or.inl rfl, ?_⟩ | refine ⟨Or.inr ⟨_, rfl⟩, ?_⟩ | refine ⟨fun _ => ?_, fun h => absurd h (by decide)⟩ | refine ⟨fun h => absurd h (by decide), fun _ => ?_⟩)
  refine mg_m_mono (hu G1 (hr.fo hF1)) (by omega) ?_
  rintro o q2 G2 ⟨rfl, rfl, hT2, hF2, h10⟩
  repeat (first | refine ⟨_, mg_Fs rfl rfl, ?_⟩ | refine ⟨Or.inl rfl, ?_⟩ | refine ⟨Or.inr ⟨_, rfl⟩, ?_⟩ | refine ⟨fun _ => ?_, fun h => absurd h (by decide)⟩ | refine ⟨fun h => absurd h (by decide), fun _ => ?_⟩)
  refine mg_cv (r174 0 h10) (by omega) ?_
  repeat (first | refine ⟨_, mg_Fs rfl rfl, ?_⟩ | refine ⟨Or.inl rfl, ?_⟩ | refine ⟨Or.inr ⟨_, rfl⟩, ?_⟩ | refine ⟨fun _ => ?_, fun h => absurd h (by decide)⟩ | refine ⟨fun h => absurd h (by decide), fun _ => ?_⟩)
  refine ⟨fun _ => ?_, fun z => absurd rfl z⟩
  refine ⟨fun z => ?_, fun z => ?_⟩
  · exact hn.go (hT1.rF hF2) hT2 hq (fun o j G3 w => ⟨w.1, w.2⟩)
  · refine ⟨1, _, 0, mg_Al rfl (by decide), ⟨by decide, by decide⟩, by decide, ?_⟩
    refine ⟨fun z2 => ?_, fun z2 => ?_⟩
    · exact hn.go (hT1.rF hF2) hT2 hq (fun o j G3 w => ⟨w.1, w.2⟩)
    · exact (z2 ((lg_cmp_eq _ _).mpr ((congrFun (hF2 169 (Or.inr (by decide))).2.1 0).trans (hv z)))).elim
theorem lx_39 (d i n : Nat) (e6 e7 e8 : Option Value) (hL : L ≤ 3072) (hi : i + 6 ≤ L) (hc : cT G S) (hr : rT G S) (hn : lwN L xs (d + 821) i n) : mg_wp (mg_KM (L, xs) shO) mc_law (d + 821) 2781 [some (.ref 1000002), some (.ref 0), some (.ref 148), some (.ref 169), some (.ref 170), some (.int (Int32.ofNat i)), e6, e7, e8] [] G (lwQ (n + 1)) :=
  lw_39 (S' := ((p315 S (xs (i + 1)))).1) (a := ((p315 S (xs (i + 1)))).2) d i n e6 e7 e8 hL hi hr hn (w380 d (xs (i + 1)) (mg_m_mono (c143 d hc (xs (i + 1))) (by omega) (fun _ _ _ h => h)) (g315_ (xs (i + 1)))) (fun G1 h1 => u315 d h1 (xs (i + 1)))
theorem lw_40 (d i n : Nat) (e6 e7 e8 : Option Value) (hL : L ≤ 3072) (hi : i + 6 ≤ L) (hr : rT G S) (hn : lwN L xs (d + 821) i n)
    (hw : mg_m (mg_KM (L, xs) shO) (d + 821) 381 [.ref 0, .int (xs (i + 1)), .int (xs (i + 2)), .ref 169] G (wP9 G S' a))
    (hu : ∀ G1, rT G1 S → mg_m (mg_KM (L, xs) shO) (d + 820) 316 [.ref 148, .int (xs (i + 1)), .int (xs (i + 2))] G1 (rW9 G1 S' a)) :
    mg_wp (mg_KM (L, xs) shO) mc_law (d + 821) 2837 [some (.ref 1000002), some (.ref 0), some (.ref 148), some (.ref 169), some (.ref 170), some (.int (Int32.ofNat i)), e6, e7, e8] [] G (lwQ (n + 1)) := by
  refine mg_goz [3435] 120 2837 ms_law mlz_33 ?_
  repeat (first | refine ⟨_, mg_Fs rfl rfl, ?_⟩ | refine ⟨Or.inl rfl, ?_⟩ | refine ⟨Or.inr ⟨_, rfl⟩, ?_⟩ | refine ⟨fun _ => ?_, fun h => absurd h (by decide)⟩ | refine ⟨fun h => absurd h (by decide), fun _ => ?_⟩)
  refine ⟨_, _, i + 1, mg_Ao (show mm_old L xs 1000002 = some (0, (L, .inl xs)) from rfl) (by decide), mg_ixE (mg_inc i) (by omega), by omega, ?_⟩
  repeat (first | refine ⟨_, mg_Fs rfl rfl, ?_⟩ | refine ⟨Or.inl rfl, ?_⟩ | refine ⟨Or.inr ⟨_, rfl⟩, ?_⟩ | refine ⟨fun _ => ?_, fun h => absurd h (by decide)⟩ | refine ⟨fun h => absurd h (by decide), fun _ => ?_⟩)
  refine ⟨_, _, i + 2, mg_Ao (show mm_old L xs 1000002 = some (0, (L, .inl xs)) from rfl) (by decide), mg_ixE ((Int32.ofNat_add i 2).symm) (by omega), by omega, ?_⟩
  repeat (first | refine ⟨_, mg_Fs rfl rfl, ?_⟩ | refine ⟨Or.inl rfl, ?_⟩ | refine ⟨Or.inr ⟨_, rfl⟩, ?_⟩ | refine ⟨fun _ => ?_, fun h => absurd h (by decide)⟩ | refine ⟨fun h => absurd h (by decide), fun _ => ?_⟩)
  refine mg_m_mono (hw) (by omega) ?_
  rintro o q G1 ⟨rfl, hq, hT1, hF1, hv⟩
  repeat (first | refine ⟨_, mg_Fs rfl rfl, ?_⟩ | refine ⟨Or.inl rfl, ?_⟩ | refine ⟨Or.inr ⟨_, rfl⟩, ?_⟩ | refine ⟨fun _ => ?_, fun h => absurd h (by decide)⟩ | refine ⟨fun h => absurd h (by decide), fun _ => ?_⟩)
  refine ⟨_, _, i + 1, mg_Ao (show mm_old L xs 1000002 = some (0, (L, .inl xs)) from rfl) (by decide), mg_ixE (mg_inc i) (by omega), by omega, ?_⟩
  repeat (first | refine ⟨_, mg_Fs rfl rfl, ?_⟩ | refine ⟨Or.inl rfl, ?_⟩ | refine ⟨Or.inr ⟨_, rfl⟩, ?_⟩ | refine ⟨fun _ => ?_, fun h => absurd h (by decide)⟩ | refine ⟨fun h => absurd h (by decide), fun _ => ?_⟩)
  refine ⟨_, _, i + 2, mg_Ao (show mm_old L xs 1000002 = some (0, (L, .inl xs)) from rfl) (by decide), mg_ixE ((Int32.ofNat_add i 2).symm) (by omega), by omega, ?_⟩
  repeat (first | refine ⟨_, mg_Fs rfl rfl, ?_⟩ | refine ⟨Or.inl rfl, ?_⟩ | refine ⟨Or.inr ⟨_, rfl⟩, ?_⟩ | refine ⟨fun _ => ?_, fun h => absurd h (by decide)⟩ | refine ⟨fun h => absurd h (by decide), fun _ => ?_⟩)
  refine mg_m_mono (hu G1 (hr.fo hF1)) (by omega) ?_
  rintro o q2 G2 ⟨rfl, rfl, hT2, hF2, h10⟩
  repeat (first | refine ⟨_, mg_Fs rfl rfl, ?_⟩ | refine ⟨Or.inl rfl, ?_⟩ | refine ⟨Or.inr ⟨_, rfl⟩, ?_⟩ | refine ⟨fun _ => ?_, fun h => absurd h (by decide)⟩ | refine ⟨fun h => absurd h (by decide), fun _ => ?_⟩)
  refine mg_cv (r174 0 h10) (by omega) ?_
  repeat (first | refine ⟨_, mg_Fs rfl rfl, ?_⟩ | refine ⟨Or.inl rfl, ?_⟩ | refine ⟨Or.inr ⟨_, rfl⟩, ?_⟩ | refine ⟨fun _ => ?_, fun h => absurd h (by decide)⟩ | refine ⟨fun h => absurd h (by decide), fun _ => ?_⟩)
  refine ⟨fun _ => ?_, fun z => absurd rfl z⟩
  refine ⟨fun z => ?_, fun z => ?_⟩
  · exact hn.go (hT1.rF hF2) hT2 hq (fun o j G3 w => ⟨w.1, w.2⟩)
  · refine ⟨1, _, 0, mg_Al rfl (by decide), ⟨by decide, by decide⟩, by decide, ?_⟩
    refine ⟨fun z2 => ?_, fun z2 => ?_⟩
    · exact hn.go (hT1.rF hF2) hT2 hq (fun o j G3 w => ⟨w.1, w.2⟩)
    · exact (z2 ((lg_cmp_eq _ _).mpr ((congrFun (hF2 169 (Or.inr (by decide))).2.1 0).trans (hv z)))).elim
theorem lx_40 (d i n : Nat) (e6 e7 e8 : Option Value) (hL : L ≤ 3072) (hi : i + 6 ≤ L) (hc : cT G S) (hr : rT G S) (hn : lwN L xs (d + 821) i n) : mg_wp (mg_KM (L, xs) shO) mc_law (d + 821) 2837 [some (.ref 1000002), some (.ref 0), some (.ref 148), some (.ref 169), some (.ref 170), some (.int (Int32.ofNat i)), e6, e7, e8] [] G (lwQ (n + 1)) :=
  lw_40 (S' := ((p316 S (xs (i + 1)) (xs (i + 2)))).1) (a := ((p316 S (xs (i + 1)) (xs (i + 2)))).2) d i n e6 e7 e8 hL hi hr hn (w381 d (xs (i + 1)) (xs (i + 2)) (mg_m_mono (c144 d hc (xs (i + 1)) (xs (i + 2))) (by omega) (fun _ _ _ h => h)) (g316_ (xs (i + 1)) (xs (i + 2)))) (fun G1 h1 => u316 d h1 (xs (i + 1)) (xs (i + 2)))
theorem lw_41 (d i n : Nat) (e6 e7 e8 : Option Value) (hL : L ≤ 3072) (hi : i + 6 ≤ L) (hr : rT G S) (hn : lwN L xs (d + 821) i n)
    (hw : mg_m (mg_KM (L, xs) shO) (d + 821) 382 [.ref 0, .int (xs (i + 1)), .ref 169] G (wP9 G S' a))
    (hu : ∀ G1, rT G1 S → mg_m (mg_KM (L, xs) shO) (d + 820) 317 [.ref 148, .int (xs (i + 1))] G1 (rW9 G1 S' a)) :
    mg_wp (mg_KM (L, xs) shO) mc_law (d + 821) 2905 [some (.ref 1000002), some (.ref 0), some (.ref 148), some (.ref 169), some (.ref 170), some (.int (Int32.ofNat i)), e6, e7, e8] [] G (lwQ (n + 1)) := by
  refine mg_goz [3435] 120 2905 ms_law mlz_34 ?_
  repeat (first | refine ⟨_, mg_Fs rfl rfl, ?_⟩ | refine ⟨Or.inl rfl, ?_⟩ | refine ⟨Or.inr ⟨_, rfl⟩, ?_⟩ | refine ⟨fun _ => ?_, fun h => absurd h (by decide)⟩ | refine ⟨fun h => absurd h (by decide), fun _ => ?_⟩)
  refine ⟨_, _, i + 1, mg_Ao (show mm_old L xs 1000002 = some (0, (L, .inl xs)) from rfl) (by decide), mg_ixE (mg_inc i) (by omega), by omega, ?_⟩
  repeat (first | refine ⟨_, mg_Fs rfl rfl, ?_⟩ | refine ⟨Or.inl rfl, ?_⟩ | refine ⟨Or.inr ⟨_, rfl⟩, ?_⟩ | refine ⟨fun _ => ?_, fun h => absurd h (by decide)⟩ | refine ⟨fun h => absurd h (by decide), fun _ => ?_⟩)
  refine mg_m_mono (hw) (by omega) ?_
  rintro o q G1 ⟨rfl, hq, hT1, hF1, hv⟩
  repeat (first | refine ⟨_, mg_Fs rfl rfl, ?_⟩ | refine ⟨Or.inl rfl, ?_⟩ | refine ⟨Or.inr ⟨_, rfl⟩, ?_⟩ | refine ⟨fun _ => ?_, fun h => absurd h (by decide)⟩ | refine ⟨fun h => absurd h (by decide), fun _ => ?_⟩)
  refine ⟨_, _, i + 1, mg_Ao (show mm_old L xs 1000002 = some (0, (L, .inl xs)) from rfl) (by decide), mg_ixE (mg_inc i) (by omega), by omega, ?_⟩
  repeat (first | refine ⟨_, mg_Fs rfl rfl, ?_⟩ | refine ⟨Or.inl rfl, ?_⟩ | refine ⟨Or.inr ⟨_, rfl⟩, ?_⟩ | refine ⟨fun _ => ?_, fun h => absurd h (by decide)⟩ | refine ⟨fun h => absurd h (by decide), fun _ => ?_⟩)
  refine mg_m_mono (hu G1 (hr.fo hF1)) (by omega) ?_
  rintro o q2 G2 ⟨rfl, rfl, hT2, hF2, h10⟩
  repeat (first | refine ⟨_, mg_Fs rfl rfl, ?_⟩ | refine ⟨Or.inl rfl, ?_⟩ | refine ⟨Or.inr ⟨_, rfl⟩, ?_⟩ | refine ⟨fun _ => ?_, fun h => absurd h (by decide)⟩ | refine ⟨fun h => absurd h (by decide), fun _ => ?_⟩)
  refine mg_cv (r174 0 h10) (by omega) ?_
  repeat (first | refine ⟨_, mg_Fs rfl rfl, ?_⟩ | refine ⟨Or.inl rfl, ?_⟩ | refine ⟨Or.inr ⟨_, rfl⟩, ?_⟩ | refine ⟨fun _ => ?_, fun h => absurd h (by decide)⟩ | refine ⟨fun h => absurd h (by decide), fun _ => ?_⟩)
  refine ⟨fun _ => ?_, fun z => absurd rfl z⟩
  refine ⟨fun z => ?_, fun z => ?_⟩
  · exact hn.go (hT1.rF hF2) hT2 hq (fun o j G3 w => ⟨w.1, w.2⟩)
  · refine ⟨1, _, 0, mg_Al rfl (by decide), ⟨by decide, by decide⟩, by decide, ?_⟩
    refine ⟨fun z2 => ?_, fun z2 => ?_⟩
    · exact hn.go (hT1.rF hF2) hT2 hq (fun o j G3 w => ⟨w.1, w.2⟩)
    · exact (z2 ((lg_cmp_eq _ _).mpr ((congrFun (hF2 169 (Or.inr (by decide))).2.1 0).trans (hv z)))).elim
theorem lx_41 (d i n : Nat) (e6 e7 e8 : Option Value) (hL : L ≤ 3072) (hi : i + 6 ≤ L) (hc : cT G S) (hr : rT G S) (hn : lwN L xs (d + 821) i n) : mg_wp (mg_KM (L, xs) shO) mc_law (d + 821) 2905 [some (.ref 1000002), some (.ref 0), some (.ref 148), some (.ref 169), some (.ref 170), some (.int (Int32.ofNat i)), e6, e7, e8] [] G (lwQ (n + 1)) :=
  lw_41 (S' := ((p317 S (xs (i + 1)))).1) (a := ((p317 S (xs (i + 1)))).2) d i n e6 e7 e8 hL hi hr hn (w382 d (xs (i + 1)) (mg_m_mono (c145 d hc (xs (i + 1))) (by omega) (fun _ _ _ h => h)) (g317_ (xs (i + 1)))) (fun G1 h1 => u317 d h1 (xs (i + 1)))
theorem lw_42 (d i n : Nat) (e6 e7 e8 : Option Value) (hL : L ≤ 3072) (hi : i + 6 ≤ L) (hr : rT G S) (hn : lwN L xs (d + 821) i n)
    (h0 : a.1 = 0) (hw : mg_m (mg_KM (L, xs) shO) (d + 821) 146 [.ref 0] G (cA G (ex1 xI) S' a))
    (hu : ∀ G1, rT G1 S → mg_m (mg_KM (L, xs) shO) (d + 820) 318 [.ref 148] G1 (rW9 G1 S' a)) :
    mg_wp (mg_KM (L, xs) shO) mc_law (d + 821) 2961 [some (.ref 1000002), some (.ref 0), some (.ref 148), some (.ref 169), some (.ref 170), some (.int (Int32.ofNat i)), e6, e7, e8] [] G (lwQ (n + 1)) := by
  refine mg_goz [3435] 120 2961 ms_law mlz_35 ?_
  repeat (first | refine ⟨_, mg_Fs rfl rfl, ?_⟩ | refine ⟨Or.inl rfl, ?_⟩ | refine ⟨Or.inr ⟨_, rfl⟩, ?_⟩ | refine ⟨fun _ => ?_, fun h => absurd h (by decide)⟩ | refine ⟨fun h => absurd h (by decide), fun _ => ?_⟩)
  refine mg_m_mono (hw) (by omega) ?_
  rintro o q G1 ⟨h, hq, hT1, hF1⟩
  rcases h with ⟨-, rfl⟩ | ⟨h, -⟩
  · repeat (first | refine ⟨_, mg_Fs rfl rfl, ?_⟩ | refine ⟨Or.inl rfl, ?_⟩ | refine ⟨Or.inr ⟨_, rfl⟩, ?_⟩ | refine ⟨fun _ => ?_, fun h => absurd h (by decide)⟩ | refine ⟨fun h => absurd h (by decide), fun _ => ?_⟩)
    refine mg_m_mono (hu G1 (hr.fc (hF1.mono (fun b hb => Or.inl hb)))) (by omega) ?_
    rintro o q2 G2 ⟨rfl, rfl, hT2, hF2, h10⟩
    refine ⟨fun _ => ?_, fun z => absurd rfl z⟩
    exact hn.go (hT1.rF hF2) hT2 hq (fun o j G3 w => ⟨w.1, w.2⟩)
  · exact absurd h0 h
theorem lx_42 (d i n : Nat) (e6 e7 e8 : Option Value) (hL : L ≤ 3072) (hi : i + 6 ≤ L) (hc : cT G S) (hr : rT G S) (hn : lwN L xs (d + 821) i n) : mg_wp (mg_KM (L, xs) shO) mc_law (d + 821) 2961 [some (.ref 1000002), some (.ref 0), some (.ref 148), some (.ref 169), some (.ref 170), some (.int (Int32.ofNat i)), e6, e7, e8] [] G (lwQ (n + 1)) :=
  lw_42 (S' := ((p318 S)).1) (a := ((p318 S)).2) d i n e6 e7 e8 hL hi hr hn rfl (mg_m_mono (c146 d hc ) (by omega) (fun _ _ _ h => h)) (fun G1 h1 => u318 d h1)
theorem lw_43 (d i n : Nat) (e6 e7 e8 : Option Value) (hL : L ≤ 3072) (hi : i + 6 ≤ L) (hr : rT G S) (hn : lwN L xs (d + 821) i n)
    (hw : mg_m (mg_KM (L, xs) shO) (d + 821) 383 [.ref 0, .int (xs (i + 1)), .int (xs (i + 2)), .ref 169] G (wP9 G S' a))
    (hu : ∀ G1, rT G1 S → mg_m (mg_KM (L, xs) shO) (d + 820) 319 [.ref 148, .int (xs (i + 1)), .int (xs (i + 2))] G1 (rW9 G1 S' a)) :
    mg_wp (mg_KM (L, xs) shO) mc_law (d + 821) 2974 [some (.ref 1000002), some (.ref 0), some (.ref 148), some (.ref 169), some (.ref 170), some (.int (Int32.ofNat i)), e6, e7, e8] [] G (lwQ (n + 1)) := by
  refine mg_goz [3435] 120 2974 ms_law mlz_35 ?_
  repeat (first | refine ⟨_, mg_Fs rfl rfl, ?_⟩ | refine ⟨Or.inl rfl, ?_⟩ | refine ⟨Or.inr ⟨_, rfl⟩, ?_⟩ | refine ⟨fun _ => ?_, fun h => absurd h (by decide)⟩ | refine ⟨fun h => absurd h (by decide), fun _ => ?_⟩)
  refine ⟨_, _, i + 1, mg_Ao (show mm_old L xs 1000002 = some (0, (L, .inl xs)) from rfl) (by decide), mg_ixE (mg_inc i) (by omega), by omega, ?_⟩
  repeat (first | refine ⟨_, mg_Fs rfl rfl, ?_⟩ | refine ⟨Or.inl rfl, ?_⟩ | refine ⟨Or.inr ⟨_, rfl⟩, ?_⟩ | refine ⟨fun _ => ?_, fun h => absurd h (by decide)⟩ | refine ⟨fun h => absurd h (by decide), fun _ => ?_⟩)
  refine ⟨_, _, i + 2, mg_Ao (show mm_old L xs 1000002 = some (0, (L, .inl xs)) from rfl) (by decide), mg_ixE ((Int32.ofNat_add i 2).symm) (by omega), by omega, ?_⟩
  repeat (first | refine ⟨_, mg_Fs rfl rfl, ?_⟩ | refine ⟨Or.inl rfl, ?_⟩ | refine ⟨Or.inr ⟨_, rfl⟩, ?_⟩ | refine ⟨fun _ => ?_, fun h => absurd h (by decide)⟩ | refine ⟨fun h => absurd h (by decide), fun _ => ?_⟩)
  refine mg_m_mono (hw) (by omega) ?_
  rintro o q G1 ⟨rfl, hq, hT1, hF1, hv⟩
  repeat (first | refine ⟨_, mg_Fs rfl rfl, ?_⟩ | refine ⟨Or.inl rfl, ?_⟩ | refine ⟨Or.inr ⟨_, rfl⟩, ?_⟩ | refine ⟨fun _ => ?_, fun h => absurd h (by decide)⟩ | refine ⟨fun h => absurd h (by decide), fun _ => ?_⟩)
  refine ⟨_, _, i + 1, mg_Ao (show mm_old L xs 1000002 = some (0, (L, .inl xs)) from rfl) (by decide), mg_ixE (mg_inc i) (by omega), by omega, ?_⟩
  repeat (first | refine ⟨_, mg_Fs rfl rfl, ?_⟩ | refine ⟨Or.inl rfl, ?_⟩ | refine ⟨Or.inr ⟨_, rfl⟩, ?_⟩ | refine ⟨fun _ => ?_, fun h => absurd h (by decide)⟩ | refine ⟨fun h => absurd h (by decide), fun _ => ?_⟩)
  refine ⟨_, _, i + 2, mg_Ao (show mm_old L xs 1000002 = some (0, (L, .inl xs)) from rfl) (by decide), mg_ixE ((Int32.ofNat_add i 2).symm) (by omega), by omega, ?_⟩
  repeat (first | refine ⟨_, mg_Fs rfl rfl, ?_⟩ | refine ⟨Or.inl rfl, ?_⟩ | refine ⟨Or.inr ⟨_, rfl⟩, ?_⟩ | refine ⟨fun _ => ?_, fun h => absurd h (by decide)⟩ | refine ⟨fun h => absurd h (by decide), fun _ => ?_⟩)
  refine mg_m_mono (hu G1 (hr.fo hF1)) (by omega) ?_
  rintro o q2 G2 ⟨rfl, rfl, hT2, hF2, h10⟩
  repeat (first | refine ⟨_, mg_Fs rfl rfl, ?_⟩ | refine ⟨Or.inl rfl, ?_⟩ | refine ⟨Or.inr ⟨_, rfl⟩, ?_⟩ | refine ⟨fun _ => ?_, fun h => absurd h (by decide)⟩ | refine ⟨fun h => absurd h (by decide), fun _ => ?_⟩)
  refine mg_cv (r174 0 h10) (by omega) ?_
  repeat (first | refine ⟨_, mg_Fs rfl rfl, ?_⟩ | refine ⟨Or.inl rfl, ?_⟩ | refine ⟨Or.inr ⟨_, rfl⟩, ?_⟩ | refine ⟨fun _ => ?_, fun h => absurd h (by decide)⟩ | refine ⟨fun h => absurd h (by decide), fun _ => ?_⟩)
  refine ⟨fun _ => ?_, fun z => absurd rfl z⟩
  refine ⟨fun z => ?_, fun z => ?_⟩
  · exact hn.go (hT1.rF hF2) hT2 hq (fun o j G3 w => ⟨w.1, w.2⟩)
  · refine ⟨1, _, 0, mg_Al rfl (by decide), ⟨by decide, by decide⟩, by decide, ?_⟩
    refine ⟨fun z2 => ?_, fun z2 => ?_⟩
    · exact hn.go (hT1.rF hF2) hT2 hq (fun o j G3 w => ⟨w.1, w.2⟩)
    · exact (z2 ((lg_cmp_eq _ _).mpr ((congrFun (hF2 169 (Or.inr (by decide))).2.1 0).trans (hv z)))).elim
theorem lx_43 (d i n : Nat) (e6 e7 e8 : Option Value) (hL : L ≤ 3072) (hi : i + 6 ≤ L) (hc : cT G S) (hr : rT G S) (hn : lwN L xs (d + 821) i n) : mg_wp (mg_KM (L, xs) shO) mc_law (d + 821) 2974 [some (.ref 1000002), some (.ref 0), some (.ref 148), some (.ref 169), some (.ref 170), some (.int (Int32.ofNat i)), e6, e7, e8] [] G (lwQ (n + 1)) :=
  lw_43 (S' := ((p319 S (xs (i + 1)) (xs (i + 2)))).1) (a := ((p319 S (xs (i + 1)) (xs (i + 2)))).2) d i n e6 e7 e8 hL hi hr hn (w383 d (xs (i + 1)) (xs (i + 2)) (mg_m_mono (c147 d hc (xs (i + 1)) (xs (i + 2))) (by omega) (fun _ _ _ h => h)) (g319_ (xs (i + 1)) (xs (i + 2)))) (fun G1 h1 => u319 d h1 (xs (i + 1)) (xs (i + 2)))
theorem lw_44 (d i n : Nat) (e6 e7 e8 : Option Value) (hL : L ≤ 3072) (hi : i + 6 ≤ L) (hr : rT G S) (hn : lwN L xs (d + 821) i n)
    (hw : mg_m (mg_KM (L, xs) shO) (d + 821) 384 [.ref 0, .int (xs (i + 1)), .int (xs (i + 2)), .ref 169] G (wP9 G S' a))
    (hu : ∀ G1, rT G1 S → mg_m (mg_KM (L, xs) shO) (d + 820) 320 [.ref 148, .int (xs (i + 1)), .int (xs (i + 2))] G1 (rW9 G1 S' a)) :
    mg_wp (mg_KM (L, xs) shO) mc_law (d + 821) 3042 [some (.ref 1000002), some (.ref 0), some (.ref 148), some (.ref 169), some (.ref 170), some (.int (Int32.ofNat i)), e6, e7, e8] [] G (lwQ (n + 1)) := by
  refine mg_goz [3435] 120 3042 ms_law mlz_36 ?_
  repeat (first | refine ⟨_, mg_Fs rfl rfl, ?_⟩ | refine ⟨Or.inl rfl, ?_⟩ | refine ⟨Or.inr ⟨_, rfl⟩, ?_⟩ | refine ⟨fun _ => ?_, fun h => absurd h (by decide)⟩ | refine ⟨fun h => absurd h (by decide), fun _ => ?_⟩)
  refine ⟨_, _, i + 1, mg_Ao (show mm_old L xs 1000002 = some (0, (L, .inl xs)) from rfl) (by decide), mg_ixE (mg_inc i) (by omega), by omega, ?_⟩
  repeat (first | refine ⟨_, mg_Fs rfl rfl, ?_⟩ | refine ⟨Or.inl rfl, ?_⟩ | refine ⟨Or.inr ⟨_, rfl⟩, ?_⟩ | refine ⟨fun _ => ?_, fun h => absurd h (by decide)⟩ | refine ⟨fun h => absurd h (by decide), fun _ => ?_⟩)
  refine ⟨_, _, i + 2, mg_Ao (show mm_old L xs 1000002 = some (0, (L, .inl xs)) from rfl) (by decide), mg_ixE ((Int32.ofNat_add i 2).symm) (by omega), by omega, ?_⟩
  repeat (first | refine ⟨_, mg_Fs rfl rfl, ?_⟩ | refine ⟨Or.inl rfl, ?_⟩ | refine ⟨Or.inr ⟨_, rfl⟩, ?_⟩ | refine ⟨fun _ => ?_, fun h => absurd h (by decide)⟩ | refine ⟨fun h => absurd h (by decide), fun _ => ?_⟩)
  refine mg_m_mono (hw) (by omega) ?_
  rintro o q G1 ⟨rfl, hq, hT1, hF1, hv⟩
  repeat (first | refine ⟨_, mg_Fs rfl rfl, ?_⟩ | refine ⟨Or.inl rfl, ?_⟩ | refine ⟨Or.inr ⟨_, rfl⟩, ?_⟩ | refine ⟨fun _ => ?_, fun h => absurd h (by decide)⟩ | refine ⟨fun h => absurd h (by decide), fun _ => ?_⟩)
  refine ⟨_, _, i + 1, mg_Ao (show mm_old L xs 1000002 = some (0, (L, .inl xs)) from rfl) (by decide), mg_ixE (mg_inc i) (by omega), by omega, ?_⟩
  repeat (first | refine ⟨_, mg_Fs rfl rfl, ?_⟩ | refine ⟨Or.inl rfl, ?_⟩ | refine ⟨Or.inr ⟨_, rfl⟩, ?_⟩ | refine ⟨fun _ => ?_, fun h => absurd h (by decide)⟩ | refine ⟨fun h => absurd h (by decide), fun _ => ?_⟩)
  refine ⟨_, _, i + 2, mg_Ao (show mm_old L xs 1000002 = some (0, (L, .inl xs)) from rfl) (by decide), mg_ixE ((Int32.ofNat_add i 2).symm) (by omega), by omega, ?_⟩
  repeat (first | refine ⟨_, mg_Fs rfl rfl, ?_⟩ | refine ⟨Or.inl rfl, ?_⟩ | refine ⟨Or.inr ⟨_, rfl⟩, ?_⟩ | refine ⟨fun _ => ?_, fun h => absurd h (by decide)⟩ | refine ⟨fun h => absurd h (by decide), fun _ => ?_⟩)
  refine mg_m_mono (hu G1 (hr.fo hF1)) (by omega) ?_
  rintro o q2 G2 ⟨rfl, rfl, hT2, hF2, h10⟩
  repeat (first | refine ⟨_, mg_Fs rfl rfl, ?_⟩ | refine ⟨Or.inl rfl, ?_⟩ | refine ⟨Or.inr ⟨_, rfl⟩, ?_⟩ | refine ⟨fun _ => ?_, fun h => absurd h (by decide)⟩ | refine ⟨fun h => absurd h (by decide), fun _ => ?_⟩)
  refine mg_cv (r174 0 h10) (by omega) ?_
  repeat (first | refine ⟨_, mg_Fs rfl rfl, ?_⟩ | refine ⟨Or.inl rfl, ?_⟩ | refine ⟨Or.inr ⟨_, rfl⟩, ?_⟩ | refine ⟨fun _ => ?_, fun h => absurd h (by decide)⟩ | refine ⟨fun h => absurd h (by decide), fun _ => ?_⟩)
  refine ⟨fun _ => ?_, fun z => absurd rfl z⟩
  refine ⟨fun z => ?_, fun z => ?_⟩
  · exact hn.go (hT1.rF hF2) hT2 hq (fun o j G3 w => ⟨w.1, w.2⟩)
  · refine ⟨1, _, 0, mg_Al rfl (by decide), ⟨by decide, by decide⟩, by decide, ?_⟩
    refine ⟨fun z2 => ?_, fun z2 => ?_⟩
    · exact hn.go (hT1.rF hF2) hT2 hq (fun o j G3 w => ⟨w.1, w.2⟩)
    · exact (z2 ((lg_cmp_eq _ _).mpr ((congrFun (hF2 169 (Or.inr (by decide))).2.1 0).trans (hv z)))).elim
theorem lx_44 (d i n : Nat) (e6 e7 e8 : Option Value) (hL : L ≤ 3072) (hi : i + 6 ≤ L) (hc : cT G S) (hr : rT G S) (hn : lwN L xs (d + 821) i n) : mg_wp (mg_KM (L, xs) shO) mc_law (d + 821) 3042 [some (.ref 1000002), some (.ref 0), some (.ref 148), some (.ref 169), some (.ref 170), some (.int (Int32.ofNat i)), e6, e7, e8] [] G (lwQ (n + 1)) :=
  lw_44 (S' := ((p320 S (xs (i + 1)) (xs (i + 2)))).1) (a := ((p320 S (xs (i + 1)) (xs (i + 2)))).2) d i n e6 e7 e8 hL hi hr hn (w384 d (xs (i + 1)) (xs (i + 2)) (mg_m_mono (c148 d hc (xs (i + 1)) (xs (i + 2))) (by omega) (fun _ _ _ h => h)) (g320_ (xs (i + 1)) (xs (i + 2)))) (fun G1 h1 => u320 d h1 (xs (i + 1)) (xs (i + 2)))
theorem lw_45 (d i n : Nat) (e6 e7 e8 : Option Value) (hL : L ≤ 3072) (hi : i + 6 ≤ L) (hr : rT G S) (hn : lwN L xs (d + 821) i n)
    (hw : mg_m (mg_KM (L, xs) shO) (d + 821) 385 [.ref 0, .ref 169] G (wP9 G S' a))
    (hu : ∀ G1, rT G1 S → mg_m (mg_KM (L, xs) shO) (d + 820) 253 [.ref 148] G1 (rW9 G1 S' a)) :
    mg_wp (mg_KM (L, xs) shO) mc_law (d + 821) 3110 [some (.ref 1000002), some (.ref 0), some (.ref 148), some (.ref 169), some (.ref 170), some (.int (Int32.ofNat i)), e6, e7, e8] [] G (lwQ (n + 1)) := by
  refine mg_goz [3435] 120 3110 ms_law mlz_37 ?_
  repeat (first | refine ⟨_, mg_Fs rfl rfl, ?_⟩ | refine ⟨Or.inl rfl, ?_⟩ | refine ⟨Or.inr ⟨_, rfl⟩, ?_⟩ | refine ⟨fun _ => ?_, fun h => absurd h (by decide)⟩ | refine ⟨fun h => absurd h (by decide), fun _ => ?_⟩)
  refine mg_m_mono (hw) (by omega) ?_
  rintro o q G1 ⟨rfl, hq, hT1, hF1, hv⟩
  repeat (first | refine ⟨_, mg_Fs rfl rfl, ?_⟩ | refine ⟨Or.inl rfl, ?_⟩ | refine ⟨Or.inr ⟨_, rfl⟩, ?_⟩ | refine ⟨fun _ => ?_, fun h => absurd h (by decide)⟩ | refine ⟨fun h => absurd h (by decide), fun _ => ?_⟩)
  refine mg_m_mono (hu G1 (hr.fo hF1)) (by omega) ?_
  rintro o q2 G2 ⟨rfl, rfl, hT2, hF2, h10⟩
  repeat (first | refine ⟨_, mg_Fs rfl rfl, ?_⟩ | refine ⟨Or.inl rfl, ?_⟩ | refine ⟨Or.inr ⟨_, rfl⟩, ?_⟩ | refine ⟨fun _ => ?_, fun h => absurd h (by decide)⟩ | refine ⟨fun h => absurd h (by decide), fun _ => ?_⟩)
  refine mg_cv (r174 0 h10) (by omega) ?_
  repeat (first | refine ⟨_, mg_Fs rfl rfl, ?_⟩ | refine ⟨Or.inl rfl, ?_⟩ | refine ⟨Or.inr ⟨_, rfl⟩, ?_⟩ | refine ⟨fun _ => ?_, fun h => absurd h (by decide)⟩ | refine ⟨fun h => absurd h (by decide), fun _ => ?_⟩)
  refine ⟨fun _ => ?_, fun z => absurd rfl z⟩
  refine ⟨fun z => ?_, fun z => ?_⟩
  · exact hn.go (hT1.rF hF2) hT2 hq (fun o j G3 w => ⟨w.1, w.2⟩)
  · refine ⟨1, _, 0, mg_Al rfl (by decide), ⟨by decide, by decide⟩, by decide, ?_⟩
    refine ⟨fun z2 => ?_, fun z2 => ?_⟩
    · exact hn.go (hT1.rF hF2) hT2 hq (fun o j G3 w => ⟨w.1, w.2⟩)
    · exact (z2 ((lg_cmp_eq _ _).mpr ((congrFun (hF2 169 (Or.inr (by decide))).2.1 0).trans (hv z)))).elim
theorem lx_45 (d i n : Nat) (e6 e7 e8 : Option Value) (hL : L ≤ 3072) (hi : i + 6 ≤ L) (hc : cT G S) (hr : rT G S) (hn : lwN L xs (d + 821) i n) : mg_wp (mg_KM (L, xs) shO) mc_law (d + 821) 3110 [some (.ref 1000002), some (.ref 0), some (.ref 148), some (.ref 169), some (.ref 170), some (.int (Int32.ofNat i)), e6, e7, e8] [] G (lwQ (n + 1)) :=
  lw_45 (S' := ((p253 S)).1) (a := ((p253 S)).2) d i n e6 e7 e8 hL hi hr hn (w385 d  (mg_m_mono (c149 d hc ) (by omega) (fun _ _ _ h => h)) (g253_ )) (fun G1 h1 => u253 d h1 )
theorem lw_46 (d i n : Nat) (e6 e7 e8 : Option Value) (hL : L ≤ 3072) (hi : i + 6 ≤ L) (hr : rT G S) (hn : lwN L xs (d + 821) i n)
    (hw : mg_m (mg_KM (L, xs) shO) (d + 821) 386 [.ref 0, .ref 169] G (wP9 G S' a))
    (hu : ∀ G1, rT G1 S → mg_m (mg_KM (L, xs) shO) (d + 820) 321 [.ref 148] G1 (rW9 G1 S' a)) :
    mg_wp (mg_KM (L, xs) shO) mc_law (d + 821) 3154 [some (.ref 1000002), some (.ref 0), some (.ref 148), some (.ref 169), some (.ref 170), some (.int (Int32.ofNat i)), e6, e7, e8] [] G (lwQ (n + 1)) := by
  refine mg_goz [3435] 120 3154 ms_law mlz_37 ?_
  repeat (first | refine ⟨_, mg_Fs rfl rfl, ?_⟩ | refine ⟨Or.inl rfl, ?_⟩ | refine ⟨Or.inr ⟨_, rfl⟩, ?_⟩ | refine ⟨fun _ => ?_, fun h => absurd h (by decide)⟩ | refine ⟨fun h => absurd h (by decide), fun _ => ?_⟩)
  refine mg_m_mono (hw) (by omega) ?_
  rintro o q G1 ⟨rfl, hq, hT1, hF1, hv⟩
  repeat (first | refine ⟨_, mg_Fs rfl rfl, ?_⟩ | refine ⟨Or.inl rfl, ?_⟩ | refine ⟨Or.inr ⟨_, rfl⟩, ?_⟩ | refine ⟨fun _ => ?_, fun h => absurd h (by decide)⟩ | refine ⟨fun h => absurd h (by decide), fun _ => ?_⟩)
  refine mg_m_mono (hu G1 (hr.fo hF1)) (by omega) ?_
  rintro o q2 G2 ⟨rfl, rfl, hT2, hF2, h10⟩
  repeat (first | refine ⟨_, mg_Fs rfl rfl, ?_⟩ | refine ⟨Or.inl rfl, ?_⟩ | refine ⟨Or.inr ⟨_, rfl⟩, ?_⟩ | refine ⟨fun _ => ?_, fun h => absurd h (by decide)⟩ | refine ⟨fun h => absurd h (by decide), fun _ => ?_⟩)
  refine mg_cv (r174 0 h10) (by omega) ?_
  repeat (first | refine ⟨_, mg_Fs rfl rfl, ?_⟩ | refine ⟨Or.inl rfl, ?_⟩ | refine ⟨Or.inr ⟨_, rfl⟩, ?_⟩ | refine ⟨fun _ => ?_, fun h => absurd h (by decide)⟩ | refine ⟨fun h => absurd h (by decide), fun _ => ?_⟩)
  refine ⟨fun _ => ?_, fun z => absurd rfl z⟩
  refine ⟨fun z => ?_, fun z => ?_⟩
  · exact hn.go (hT1.rF hF2) hT2 hq (fun o j G3 w => ⟨w.1, w.2⟩)
  · refine ⟨1, _, 0, mg_Al rfl (by decide), ⟨by decide, by decide⟩, by decide, ?_⟩
    refine ⟨fun z2 => ?_, fun z2 => ?_⟩
    · exact hn.go (hT1.rF hF2) hT2 hq (fun o j G3 w => ⟨w.1, w.2⟩)
    · exact (z2 ((lg_cmp_eq _ _).mpr ((congrFun (hF2 169 (Or.inr (by decide))).2.1 0).trans (hv z)))).elim
theorem lx_46 (d i n : Nat) (e6 e7 e8 : Option Value) (hL : L ≤ 3072) (hi : i + 6 ≤ L) (hc : cT G S) (hr : rT G S) (hn : lwN L xs (d + 821) i n) : mg_wp (mg_KM (L, xs) shO) mc_law (d + 821) 3154 [some (.ref 1000002), some (.ref 0), some (.ref 148), some (.ref 169), some (.ref 170), some (.int (Int32.ofNat i)), e6, e7, e8] [] G (lwQ (n + 1)) :=
  lw_46 (S' := ((p321 S)).1) (a := ((p321 S)).2) d i n e6 e7 e8 hL hi hr hn (w386 d  (mg_m_mono (c150 d hc ) (by omega) (fun _ _ _ h => h)) (g321_ )) (fun G1 h1 => u321 d h1 )
theorem lw_47 (d i n : Nat) (e6 e7 e8 : Option Value) (hL : L ≤ 3072) (hi : i + 6 ≤ L) (hr : rT G S) (hn : lwN L xs (d + 821) i n)
    (hw : mg_m (mg_KM (L, xs) shO) (d + 821) 387 [.ref 0, .int (xs (i + 1)), .ref 169] G (wP9 G S' a))
    (hu : ∀ G1, rT G1 S → mg_m (mg_KM (L, xs) shO) (d + 820) 322 [.ref 148, .int (xs (i + 1))] G1 (rW9 G1 S' a)) :
    mg_wp (mg_KM (L, xs) shO) mc_law (d + 821) 3198 [some (.ref 1000002), some (.ref 0), some (.ref 148), some (.ref 169), some (.ref 170), some (.int (Int32.ofNat i)), e6, e7, e8] [] G (lwQ (n + 1)) := by
  refine mg_goz [3435] 120 3198 ms_law mlz_38 ?_
  repeat (first | refine ⟨_, mg_Fs rfl rfl, ?_⟩ | refine ⟨Or.inl rfl, ?_⟩ | refine ⟨Or.inr ⟨_, rfl⟩, ?_⟩ | refine ⟨fun _ => ?_, fun h => absurd h (by decide)⟩ | refine ⟨fun h => absurd h (by decide), fun _ => ?_⟩)
  refine ⟨_, _, i + 1, mg_Ao (show mm_old L xs 1000002 = some (0, (L, .inl xs)) from rfl) (by decide), mg_ixE (mg_inc i) (by omega), by omega, ?_⟩
  repeat (first | refine ⟨_, mg_Fs rfl rfl, ?_⟩ | refine ⟨Or.inl rfl, ?_⟩ | refine ⟨Or.inr ⟨_, rfl⟩, ?_⟩ | refine ⟨fun _ => ?_, fun h => absurd h (by decide)⟩ | refine ⟨fun h => absurd h (by decide), fun _ => ?_⟩)
  refine mg_m_mono (hw) (by omega) ?_
  rintro o q G1 ⟨rfl, hq, hT1, hF1, hv⟩
  repeat (first | refine ⟨_, mg_Fs rfl rfl, ?_⟩ | refine ⟨Or.inl rfl, ?_⟩ | refine ⟨Or.inr ⟨_, rfl⟩, ?_⟩ | refine ⟨fun _ => ?_, fun h => absurd h (by decide)⟩ | refine ⟨fun h => absurd h (by decide), fun _ => ?_⟩)
  refine ⟨_, _, i + 1, mg_Ao (show mm_old L xs 1000002 = some (0, (L, .inl xs)) from rfl) (by decide), mg_ixE (mg_inc i) (by omega), by omega, ?_⟩
  repeat (first | refine ⟨_, mg_Fs rfl rfl, ?_⟩ | refine ⟨Or.inl rfl, ?_⟩ | refine ⟨Or.inr ⟨_, rfl⟩, ?_⟩ | refine ⟨fun _ => ?_, fun h => absurd h (by decide)⟩ | refine ⟨fun h => absurd h (by decide), fun _ => ?_⟩)
  refine mg_m_mono (hu G1 (hr.fo hF1)) (by omega) ?_
  rintro o q2 G2 ⟨rfl, rfl, hT2, hF2, h10⟩
  repeat (first | refine ⟨_, mg_Fs rfl rfl, ?_⟩ | refine ⟨Or.inl rfl, ?_⟩ | refine ⟨Or.inr ⟨_, rfl⟩, ?_⟩ | refine ⟨fun _ => ?_, fun h => absurd h (by decide)⟩ | refine ⟨fun h => absurd h (by decide), fun _ => ?_⟩)
  refine mg_cv (r174 0 h10) (by omega) ?_
  repeat (first | refine ⟨_, mg_Fs rfl rfl, ?_⟩ | refine ⟨Or.inl rfl, ?_⟩ | refine ⟨Or.inr ⟨_, rfl⟩, ?_⟩ | refine ⟨fun _ => ?_, fun h => absurd h (by decide)⟩ | refine ⟨fun h => absurd h (by decide), fun _ => ?_⟩)
  refine ⟨fun _ => ?_, fun z => absurd rfl z⟩
  refine ⟨fun z => ?_, fun z => ?_⟩
  · exact hn.go (hT1.rF hF2) hT2 hq (fun o j G3 w => ⟨w.1, w.2⟩)
  · refine ⟨1, _, 0, mg_Al rfl (by decide), ⟨by decide, by decide⟩, by decide, ?_⟩
    refine ⟨fun z2 => ?_, fun z2 => ?_⟩
    · exact hn.go (hT1.rF hF2) hT2 hq (fun o j G3 w => ⟨w.1, w.2⟩)
    · exact (z2 ((lg_cmp_eq _ _).mpr ((congrFun (hF2 169 (Or.inr (by decide))).2.1 0).trans (hv z)))).elim
theorem lx_47 (d i n : Nat) (e6 e7 e8 : Option Value) (hL : L ≤ 3072) (hi : i + 6 ≤ L) (hc : cT G S) (hr : rT G S) (hn : lwN L xs (d + 821) i n) : mg_wp (mg_KM (L, xs) shO) mc_law (d + 821) 3198 [some (.ref 1000002), some (.ref 0), some (.ref 148), some (.ref 169), some (.ref 170), some (.int (Int32.ofNat i)), e6, e7, e8] [] G (lwQ (n + 1)) :=
  lw_47 (S' := ((p322 S (xs (i + 1)))).1) (a := ((p322 S (xs (i + 1)))).2) d i n e6 e7 e8 hL hi hr hn (w387 d (xs (i + 1)) (mg_m_mono (c151 d hc (xs (i + 1))) (by omega) (fun _ _ _ h => h)) (g322_ (xs (i + 1)))) (fun G1 h1 => u322 d h1 (xs (i + 1)))
theorem lw_48 (d i n : Nat) (e6 e7 e8 : Option Value) (hL : L ≤ 3072) (hi : i + 6 ≤ L) (hr : rT G S) (hn : lwN L xs (d + 821) i n)
    (hw : mg_m (mg_KM (L, xs) shO) (d + 821) 388 [.ref 0, .int (xs (i + 1)), .ref 169] G (wP9 G S' a))
    (hu : ∀ G1, rT G1 S → mg_m (mg_KM (L, xs) shO) (d + 820) 323 [.ref 148, .int (xs (i + 1))] G1 (rW9 G1 S' a)) :
    mg_wp (mg_KM (L, xs) shO) mc_law (d + 821) 3254 [some (.ref 1000002), some (.ref 0), some (.ref 148), some (.ref 169), some (.ref 170), some (.int (Int32.ofNat i)), e6, e7, e8] [] G (lwQ (n + 1)) := by
  refine mg_goz [3435] 120 3254 ms_law mlz_39 ?_
  repeat (first | refine ⟨_, mg_Fs rfl rfl, ?_⟩ | refine ⟨Or.inl rfl, ?_⟩ | refine ⟨Or.inr ⟨_, rfl⟩, ?_⟩ | refine ⟨fun _ => ?_, fun h => absurd h (by decide)⟩ | refine ⟨fun h => absurd h (by decide), fun _ => ?_⟩)
  refine ⟨_, _, i + 1, mg_Ao (show mm_old L xs 1000002 = some (0, (L, .inl xs)) from rfl) (by decide), mg_ixE (mg_inc i) (by omega), by omega, ?_⟩
  repeat (first | refine ⟨_, mg_Fs rfl rfl, ?_⟩ | refine ⟨Or.inl rfl, ?_⟩ | refine ⟨Or.inr ⟨_, rfl⟩, ?_⟩ | refine ⟨fun _ => ?_, fun h => absurd h (by decide)⟩ | refine ⟨fun h => absurd h (by decide), fun _ => ?_⟩)
  refine mg_m_mono (hw) (by omega) ?_
  rintro o q G1 ⟨rfl, hq, hT1, hF1, hv⟩
  repeat (first | refine ⟨_, mg_Fs rfl rfl, ?_⟩ | refine ⟨Or.inl rfl, ?_⟩ | refine ⟨Or.inr ⟨_, rfl⟩, ?_⟩ | refine ⟨fun _ => ?_, fun h => absurd h (by decide)⟩ | refine ⟨fun h => absurd h (by decide), fun _ => ?_⟩)
  refine ⟨_, _, i + 1, mg_Ao (show mm_old L xs 1000002 = some (0, (L, .inl xs)) from rfl) (by decide), mg_ixE (mg_inc i) (by omega), by omega, ?_⟩
  repeat (first | refine ⟨_, mg_Fs rfl rfl, ?_⟩ | refine ⟨Or.inl rfl, ?_⟩ | refine ⟨Or.inr ⟨_, rfl⟩, ?_⟩ | refine ⟨fun _ => ?_, fun h => absurd h (by decide)⟩ | refine ⟨fun h => absurd h (by decide), fun _ => ?_⟩)
  refine mg_m_mono (hu G1 (hr.fo hF1)) (by omega) ?_
  rintro o q2 G2 ⟨rfl, rfl, hT2, hF2, h10⟩
  repeat (first | refine ⟨_, mg_Fs rfl rfl, ?_⟩ | refine ⟨Or.inl rfl, ?_⟩ | refine ⟨Or.inr ⟨_, rfl⟩, ?_⟩ | refine ⟨fun _ => ?_, fun h => absurd h (by decide)⟩ | refine ⟨fun h => absurd h (by decide), fun _ => ?_⟩)
  refine mg_cv (r174 0 h10) (by omega) ?_
  repeat (first | refine ⟨_, mg_Fs rfl rfl, ?_⟩ | refine ⟨Or.inl rfl, ?_⟩ | refine ⟨Or.inr ⟨_, rfl⟩, ?_⟩ | refine ⟨fun _ => ?_, fun h => absurd h (by decide)⟩ | refine ⟨fun h => absurd h (by decide), fun _ => ?_⟩)
  refine ⟨fun _ => ?_, fun z => absurd rfl z⟩
  refine ⟨fun z => ?_, fun z => ?_⟩
  · exact hn.go (hT1.rF hF2) hT2 hq (fun o j G3 w => ⟨w.1, w.2⟩)
  · refine ⟨1, _, 0, mg_Al rfl (by decide), ⟨by decide, by decide⟩, by decide, ?_⟩
    refine ⟨fun z2 => ?_, fun z2 => ?_⟩
    · exact hn.go (hT1.rF hF2) hT2 hq (fun o j G3 w => ⟨w.1, w.2⟩)
    · exact (z2 ((lg_cmp_eq _ _).mpr ((congrFun (hF2 169 (Or.inr (by decide))).2.1 0).trans (hv z)))).elim
theorem lx_48 (d i n : Nat) (e6 e7 e8 : Option Value) (hL : L ≤ 3072) (hi : i + 6 ≤ L) (hc : cT G S) (hr : rT G S) (hn : lwN L xs (d + 821) i n) : mg_wp (mg_KM (L, xs) shO) mc_law (d + 821) 3254 [some (.ref 1000002), some (.ref 0), some (.ref 148), some (.ref 169), some (.ref 170), some (.int (Int32.ofNat i)), e6, e7, e8] [] G (lwQ (n + 1)) :=
  lw_48 (S' := ((p323 S (xs (i + 1)))).1) (a := ((p323 S (xs (i + 1)))).2) d i n e6 e7 e8 hL hi hr hn (w388 d (xs (i + 1)) (mg_m_mono (c152 d hc (xs (i + 1))) (by omega) (fun _ _ _ h => h)) (g323_ (xs (i + 1)))) (fun G1 h1 => u323 d h1 (xs (i + 1)))
theorem lw_49 (d i n : Nat) (e6 e7 e8 : Option Value) (hL : L ≤ 3072) (hi : i + 6 ≤ L) (hr : rT G S) (hn : lwN L xs (d + 821) i n)
    (hw : mg_m (mg_KM (L, xs) shO) (d + 821) 389 [.ref 0, .int (xs (i + 1)), .ref 169] G (wP9 G S' a))
    (hu : ∀ G1, rT G1 S → mg_m (mg_KM (L, xs) shO) (d + 820) 327 [.ref 148, .int (xs (i + 1))] G1 (rW9 G1 S' a)) :
    mg_wp (mg_KM (L, xs) shO) mc_law (d + 821) 3310 [some (.ref 1000002), some (.ref 0), some (.ref 148), some (.ref 169), some (.ref 170), some (.int (Int32.ofNat i)), e6, e7, e8] [] G (lwQ (n + 1)) := by
  refine mg_goz [3435] 120 3310 ms_law mlz_39 ?_
  repeat (first | refine ⟨_, mg_Fs rfl rfl, ?_⟩ | refine ⟨Or.inl rfl, ?_⟩ | refine ⟨Or.inr ⟨_, rfl⟩, ?_⟩ | refine ⟨fun _ => ?_, fun h => absurd h (by decide)⟩ | refine ⟨fun h => absurd h (by decide), fun _ => ?_⟩)
  refine ⟨_, _, i + 1, mg_Ao (show mm_old L xs 1000002 = some (0, (L, .inl xs)) from rfl) (by decide), mg_ixE (mg_inc i) (by omega), by omega, ?_⟩
  repeat (first | refine ⟨_, mg_Fs rfl rfl, ?_⟩ | refine ⟨Or.inl rfl, ?_⟩ | refine ⟨Or.inr ⟨_, rfl⟩, ?_⟩ | refine ⟨fun _ => ?_, fun h => absurd h (by decide)⟩ | refine ⟨fun h => absurd h (by decide), fun _ => ?_⟩)
  refine mg_m_mono (hw) (by omega) ?_
  rintro o q G1 ⟨rfl, hq, hT1, hF1, hv⟩
  repeat (first | refine ⟨_, mg_Fs rfl rfl, ?_⟩ | refine ⟨Or.inl rfl, ?_⟩ | refine ⟨Or.inr ⟨_, rfl⟩, ?_⟩ | refine ⟨fun _ => ?_, fun h => absurd h (by decide)⟩ | refine ⟨fun h => absurd h (by decide), fun _ => ?_⟩)
  refine ⟨_, _, i + 1, mg_Ao (show mm_old L xs 1000002 = some (0, (L, .inl xs)) from rfl) (by decide), mg_ixE (mg_inc i) (by omega), by omega, ?_⟩
  repeat (first | refine ⟨_, mg_Fs rfl rfl, ?_⟩ | refine ⟨Or.inl rfl, ?_⟩ | refine ⟨Or.inr ⟨_, rfl⟩, ?_⟩ | refine ⟨fun _ => ?_, fun h => absurd h (by decide)⟩ | refine ⟨fun h => absurd h (by decide), fun _ => ?_⟩)
  refine mg_m_mono (hu G1 (hr.fo hF1)) (by omega) ?_
  rintro o q2 G2 ⟨rfl, rfl, hT2, hF2, h10⟩
  repeat (first | refine ⟨_, mg_Fs rfl rfl, ?_⟩ | refine ⟨Or.inl rfl, ?_⟩ | refine ⟨Or.inr ⟨_, rfl⟩, ?_⟩ | refine ⟨fun _ => ?_, fun h => absurd h (by decide)⟩ | refine ⟨fun h => absurd h (by decide), fun _ => ?_⟩)
  refine mg_cv (r174 0 h10) (by omega) ?_
  repeat (first | refine ⟨_, mg_Fs rfl rfl, ?_⟩ | refine ⟨Or.inl rfl, ?_⟩ | refine ⟨Or.inr ⟨_, rfl⟩, ?_⟩ | refine ⟨fun _ => ?_, fun h => absurd h (by decide)⟩ | refine ⟨fun h => absurd h (by decide), fun _ => ?_⟩)
  refine ⟨fun _ => ?_, fun z => absurd rfl z⟩
  refine ⟨fun z => ?_, fun z => ?_⟩
  · exact hn.go (hT1.rF hF2) hT2 hq (fun o j G3 w => ⟨w.1, w.2⟩)
  · refine ⟨1, _, 0, mg_Al rfl (by decide), ⟨by decide, by decide⟩, by decide, ?_⟩
    refine ⟨fun z2 => ?_, fun z2 => ?_⟩
    · exact hn.go (hT1.rF hF2) hT2 hq (fun o j G3 w => ⟨w.1, w.2⟩)
    · exact (z2 ((lg_cmp_eq _ _).mpr ((congrFun (hF2 169 (Or.inr (by decide))).2.1 0).trans (hv z)))).elim
theorem lx_49 (d i n : Nat) (e6 e7 e8 : Option Value) (hL : L ≤ 3072) (hi : i + 6 ≤ L) (hc : cT G S) (hr : rT G S) (hn : lwN L xs (d + 821) i n) : mg_wp (mg_KM (L, xs) shO) mc_law (d + 821) 3310 [some (.ref 1000002), some (.ref 0), some (.ref 148), some (.ref 169), some (.ref 170), some (.int (Int32.ofNat i)), e6, e7, e8] [] G (lwQ (n + 1)) :=
  lw_49 (S' := ((p327 S (xs (i + 1)))).1) (a := ((p327 S (xs (i + 1)))).2) d i n e6 e7 e8 hL hi hr hn (w389 d (xs (i + 1)) (mg_m_mono (c153 d hc (xs (i + 1))) (by omega) (fun _ _ _ h => h)) (g327_ (xs (i + 1)))) (fun G1 h1 => u327 d h1 (xs (i + 1)))
theorem lw_50 (d i n : Nat) (e6 e7 e8 : Option Value) (hL : L ≤ 3072) (hi : i + 6 ≤ L) (hr : rT G S) (hn : lwN L xs (d + 821) i n)
    (h0 : a.1 = 0) (hw : mg_m (mg_KM (L, xs) shO) (d + 821) 154 [.ref 0] G (cA G (ex1 xI) S' a))
    (hu : ∀ G1, rT G1 S → mg_m (mg_KM (L, xs) shO) (d + 820) 328 [.ref 148] G1 (rW9 G1 S' a)) :
    mg_wp (mg_KM (L, xs) shO) mc_law (d + 821) 3366 [some (.ref 1000002), some (.ref 0), some (.ref 148), some (.ref 169), some (.ref 170), some (.int (Int32.ofNat i)), e6, e7, e8] [] G (lwQ (n + 1)) := by
  refine mg_goz [3435] 120 3366 ms_law mlz_40 ?_
  repeat (first | refine ⟨_, mg_Fs rfl rfl, ?_⟩ | refine ⟨Or.inl rfl, ?_⟩ | refine ⟨Or.inr ⟨_, rfl⟩, ?_⟩ | refine ⟨fun _ => ?_, fun h => absurd h (by decide)⟩ | refine ⟨fun h => absurd h (by decide), fun _ => ?_⟩)
  refine mg_m_mono (hw) (by omega) ?_
  rintro o q G1 ⟨h, hq, hT1, hF1⟩
  rcases h with ⟨-, rfl⟩ | ⟨h, -⟩
  · repeat (first | refine ⟨_, mg_Fs rfl rfl, ?_⟩ | refine ⟨Or.inl rfl, ?_⟩ | refine ⟨Or.inr ⟨_, rfl⟩, ?_⟩ | refine ⟨fun _ => ?_, fun h => absurd h (by decide)⟩ | refine ⟨fun h => absurd h (by decide), fun _ => ?_⟩)
    refine mg_m_mono (hu G1 (hr.fc (hF1.mono (fun b hb => Or.inl hb)))) (by omega) ?_
    rintro o q2 G2 ⟨rfl, rfl, hT2, hF2, h10⟩
    refine ⟨fun _ => ?_, fun z => absurd rfl z⟩
    exact hn.go (hT1.rF hF2) hT2 hq (fun o j G3 w => ⟨w.1, w.2⟩)
  · exact absurd h0 h
theorem lx_50 (d i n : Nat) (e6 e7 e8 : Option Value) (hL : L ≤ 3072) (hi : i + 6 ≤ L) (hc : cT G S) (hr : rT G S) (hn : lwN L xs (d + 821) i n) : mg_wp (mg_KM (L, xs) shO) mc_law (d + 821) 3366 [some (.ref 1000002), some (.ref 0), some (.ref 148), some (.ref 169), some (.ref 170), some (.int (Int32.ofNat i)), e6, e7, e8] [] G (lwQ (n + 1)) :=
  lw_50 (S' := ((p328 S)).1) (a := ((p328 S)).2) d i n e6 e7 e8 hL hi hr hn rfl (mg_m_mono (c154 d hc ) (by omega) (fun _ _ _ h => h)) (fun G1 h1 => u328 d h1)
theorem lw_51 (d i n : Nat) (e6 e7 e8 : Option Value) (hL : L ≤ 3072) (hi : i + 6 ≤ L) (hr : rT G S) (hn : lwN L xs (d + 821) i n)
    (hw : mg_m (mg_KM (L, xs) shO) (d + 821) 390 [.ref 0, .int (xs (i + 1)), .ref 169] G (wP9 G S' a))
    (hu : ∀ G1, rT G1 S → mg_m (mg_KM (L, xs) shO) (d + 820) 329 [.ref 148, .int (xs (i + 1))] G1 (rW9 G1 S' a)) :
    mg_wp (mg_KM (L, xs) shO) mc_law (d + 821) 3379 [some (.ref 1000002), some (.ref 0), some (.ref 148), some (.ref 169), some (.ref 170), some (.int (Int32.ofNat i)), e6, e7, e8] [] G (lwQ (n + 1)) := by
  refine mg_goz [3435] 120 3379 ms_law mlz_40 ?_
  repeat (first | refine ⟨_, mg_Fs rfl rfl, ?_⟩ | refine ⟨Or.inl rfl, ?_⟩ | refine ⟨Or.inr ⟨_, rfl⟩, ?_⟩ | refine ⟨fun _ => ?_, fun h => absurd h (by decide)⟩ | refine ⟨fun h => absurd h (by decide), fun _ => ?_⟩)
  refine ⟨_, _, i + 1, mg_Ao (show mm_old L xs 1000002 = some (0, (L, .inl xs)) from rfl) (by decide), mg_ixE (mg_inc i) (by omega), by omega, ?_⟩
  repeat (first | refine ⟨_, mg_Fs rfl rfl, ?_⟩ | refine ⟨Or.inl rfl, ?_⟩ | refine ⟨Or.inr ⟨_, rfl⟩, ?_⟩ | refine ⟨fun _ => ?_, fun h => absurd h (by decide)⟩ | refine ⟨fun h => absurd h (by decide), fun _ => ?_⟩)
  refine mg_m_mono (hw) (by omega) ?_
  rintro o q G1 ⟨rfl, hq, hT1, hF1, hv⟩
  repeat (first | refine ⟨_, mg_Fs rfl rfl, ?_⟩ | refine ⟨Or.inl rfl, ?_⟩ | refine ⟨Or.inr ⟨_, rfl⟩, ?_⟩ | refine ⟨fun _ => ?_, fun h => absurd h (by decide)⟩ | refine ⟨fun h => absurd h (by decide), fun _ => ?_⟩)
  refine ⟨_, _, i + 1, mg_Ao (show mm_old L xs 1000002 = some (0, (L, .inl xs)) from rfl) (by decide), mg_ixE (mg_inc i) (by omega), by omega, ?_⟩
  repeat (first | refine ⟨_, mg_Fs rfl rfl, ?_⟩ | refine ⟨Or.inl rfl, ?_⟩ | refine ⟨Or.inr ⟨_, rfl⟩, ?_⟩ | refine ⟨fun _ => ?_, fun h => absurd h (by decide)⟩ | refine ⟨fun h => absurd h (by decide), fun _ => ?_⟩)
  refine mg_m_mono (hu G1 (hr.fo hF1)) (by omega) ?_
  rintro o q2 G2 ⟨rfl, rfl, hT2, hF2, h10⟩
  repeat (first | refine ⟨_, mg_Fs rfl rfl, ?_⟩ | refine ⟨Or.inl rfl, ?_⟩ | refine ⟨Or.inr ⟨_, rfl⟩, ?_⟩ | refine ⟨fun _ => ?_, fun h => absurd h (by decide)⟩ | refine ⟨fun h => absurd h (by decide), fun _ => ?_⟩)
  refine mg_cv (r174 0 h10) (by omega) ?_
  repeat (first | refine ⟨_, mg_Fs rfl rfl, ?_⟩ | refine ⟨Or.inl rfl, ?_⟩ | refine ⟨Or.inr ⟨_, rfl⟩, ?_⟩ | refine ⟨fun _ => ?_, fun h => absurd h (by decide)⟩ | refine ⟨fun h => absurd h (by decide), fun _ => ?_⟩)
  refine ⟨fun _ => ?_, fun z => absurd rfl z⟩
  refine ⟨fun z => ?_, fun z => ?_⟩
  · exact hn.go (hT1.rF hF2) hT2 hq (fun o j G3 w => ⟨w.1, w.2⟩)
  · refine ⟨1, _, 0, mg_Al rfl (by decide), ⟨by decide, by decide⟩, by decide, ?_⟩
    refine ⟨fun z2 => ?_, fun z2 => ?_⟩
    · exact hn.go (hT1.rF hF2) hT2 hq (fun o j G3 w => ⟨w.1, w.2⟩)
    · exact (z2 ((lg_cmp_eq _ _).mpr ((congrFun (hF2 169 (Or.inr (by decide))).2.1 0).trans (hv z)))).elim
theorem lx_51 (d i n : Nat) (e6 e7 e8 : Option Value) (hL : L ≤ 3072) (hi : i + 6 ≤ L) (hc : cT G S) (hr : rT G S) (hn : lwN L xs (d + 821) i n) : mg_wp (mg_KM (L, xs) shO) mc_law (d + 821) 3379 [some (.ref 1000002), some (.ref 0), some (.ref 148), some (.ref 169), some (.ref 170), some (.int (Int32.ofNat i)), e6, e7, e8] [] G (lwQ (n + 1)) :=
  lw_51 (S' := S) (a := (q329 S (xs (i + 1)))) d i n e6 e7 e8 hL hi hr hn (w390 d (xs (i + 1)) (mg_m_mono (c155 d hc (xs (i + 1))) (by omega) (fun _ _ _ h => h)) (g329_ (xs (i + 1)))) (fun G1 h1 => u329 d h1 (xs (i + 1)))
end LW
