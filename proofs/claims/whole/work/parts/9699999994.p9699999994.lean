/-! THE LAW: the cases 0, 1, 2, 3, 4, 5, 6, 7, 8, 9, 10, 11, 12, 13, 14, 15, 16, 17 -/
section LW
variable {L : Nat} {xs : Nat → Int32} {G : mg_G} {S S' : a_S} {a : qR}
theorem lw_0 (d i n : Nat) (e6 e7 e8 : Option Value) (hL : L ≤ 3072) (hi : i + 6 ≤ L) (hr : rT G S) (hn : lwN L xs (d + 821) i n)
    (hw : mg_m (mg_KM (L, xs) shO) (d + 821) 343 [.ref 0, .int (xs (i + 1)), .int (xs (i + 2)), .int (xs (i + 3)), .int (xs (i + 4)), .int (xs (i + 5)), .ref 169] G (wP9 G S' a))
    (hu : ∀ G1, rT G1 S → mg_m (mg_KM (L, xs) shO) (d + 820) 206 [.ref 148, .int (xs (i + 1)), .int (xs (i + 2)), .int (xs (i + 3)), .int (xs (i + 4)), .int (xs (i + 5))] G1 (rW9 G1 S' a)) :
    mg_wp (mg_KM (L, xs) shO) mc_law (d + 821) 268 [some (.ref 1000002), some (.ref 0), some (.ref 148), some (.ref 169), some (.ref 170), some (.int (Int32.ofNat i)), e6, e7, e8] [] G (lwQ (n + 1)) := by
  refine mg_goz [3435] 120 268 ms_law mlz_0 ?_
  repeat (first | refine ⟨_, mg_Fs rfl rfl, ?_⟩ | refine ⟨Or.inl rfl, ?_⟩ | refine ⟨Or.inr ⟨_, rfl⟩, ?_⟩ | refine ⟨fun _ => ?_, fun h => absurd h (by decide)⟩ | refine ⟨fun h => absurd h (by decide), fun _ => ?_⟩)
  refine ⟨_, _, i + 1, mg_Ao (show mm_old L xs 1000002 = some (0, (L, .inl xs)) from rfl) (by decide), mg_ixE (mg_inc i) (by omega), by omega, ?_⟩
  repeat (first | refine ⟨_, mg_Fs rfl rfl, ?_⟩ | refine ⟨Or.inl rfl, ?_⟩ | refine ⟨Or.inr ⟨_, rfl⟩, ?_⟩ | refine ⟨fun _ => ?_, fun h => absurd h (by decide)⟩ | refine ⟨fun h => absurd h (by decide), fun _ => ?_⟩)
  refine ⟨_, _, i + 2, mg_Ao (show mm_old L xs 1000002 = some (0, (L, .inl xs)) from rfl) (by decide), mg_ixE ((Int32.ofNat_add i 2).symm) (by omega), by omega, ?_⟩
  repeat (first | refine ⟨_, mg_Fs rfl rfl, ?_⟩ | refine ⟨Or.inl rfl, ?_⟩ | refine ⟨Or.inr ⟨_, rfl⟩, ?_⟩ | refine ⟨fun _ => ?_, fun h => absurd h (by decide)⟩ | refine ⟨fun h => absurd h (by decide), fun _ => ?_⟩)
  refine ⟨_, _, i + 3, mg_Ao (show mm_old L xs 1000002 = some (0, (L, .inl xs)) from rfl) (by decide), mg_ixE ((Int32.ofNat_add i 3).symm) (by omega), by omega, ?_⟩
  repeat (first | refine ⟨_, mg_Fs rfl rfl, ?_⟩ | refine ⟨Or.inl rfl, ?_⟩ | refine ⟨Or.inr ⟨_, rfl⟩, ?_⟩ | refine ⟨fun _ => ?_, fun h => absurd h (by decide)⟩ | refine ⟨fun h => absurd h (by decide), fun _ => ?_⟩)
  refine ⟨_, _, i + 4, mg_Ao (show mm_old L xs 1000002 = some (0, (L, .inl xs)) from rfl) (by decide), mg_ixE ((Int32.ofNat_add i 4).symm) (by omega), by omega, ?_⟩
  repeat (first | refine ⟨_, mg_Fs rfl rfl, ?_⟩ | refine ⟨Or.inl rfl, ?_⟩ | refine ⟨Or.inr ⟨_, rfl⟩, ?_⟩ | refine ⟨fun _ => ?_, fun h => absurd h (by decide)⟩ | refine ⟨fun h => absurd h (by decide), fun _ => ?_⟩)
  refine ⟨_, _, i + 5, mg_Ao (show mm_old L xs 1000002 = some (0, (L, .inl xs)) from rfl) (by decide), mg_ixE ((Int32.ofNat_add i 5).symm) (by omega), by omega, ?_⟩
  repeat (first | refine ⟨_, mg_Fs rfl rfl, ?_⟩ | refine ⟨Or.inl rfl, ?_⟩ | refine ⟨Or.inr ⟨_, rfl⟩, ?_⟩ | refine ⟨fun _ => ?_, fun h => absurd h (by decide)⟩ | refine ⟨fun h => absurd h (by decide), fun _ => ?_⟩)
  refine mg_m_mono (hw) (by omega) ?_
  rintro o q G1 ⟨rfl, hq, hT1, hF1, hv⟩
  repeat (first | refine ⟨_, mg_Fs rfl rfl, ?_⟩ | refine ⟨Or.inl rfl, ?_⟩ | refine ⟨Or.inr ⟨_, rfl⟩, ?_⟩ | refine ⟨fun _ => ?_, fun h => absurd h (by decide)⟩ | refine ⟨fun h => absurd h (by decide), fun _ => ?_⟩)
  refine ⟨_, _, i + 1, mg_Ao (show mm_old L xs 1000002 = some (0, (L, .inl xs)) from rfl) (by decide), mg_ixE (mg_inc i) (by omega), by omega, ?_⟩
  repeat (first | refine ⟨_, mg_Fs rfl rfl, ?_⟩ | refine ⟨Or.inl rfl, ?_⟩ | refine ⟨Or.inr ⟨_, rfl⟩, ?_⟩ | refine ⟨fun _ => ?_, fun h => absurd h (by decide)⟩ | refine ⟨fun h => absurd h (by decide), fun _ => ?_⟩)
  refine ⟨_, _, i + 2, mg_Ao (show mm_old L xs 1000002 = some (0, (L, .inl xs)) from rfl) (by decide), mg_ixE ((Int32.ofNat_add i 2).symm) (by omega), by omega, ?_⟩
  repeat (first | refine ⟨_, mg_Fs rfl rfl, ?_⟩ | refine ⟨Or.inl rfl, ?_⟩ | refine ⟨Or.inr ⟨_, rfl⟩, ?_⟩ | refine ⟨fun _ => ?_, fun h => absurd h (by decide)⟩ | refine ⟨fun h => absurd h (by decide), fun _ => ?_⟩)
  refine ⟨_, _, i + 3, mg_Ao (show mm_old L xs 1000002 = some (0, (L, .inl xs)) from rfl) (by decide), mg_ixE ((Int32.ofNat_add i 3).symm) (by omega), by omega, ?_⟩
  repeat (first | refine ⟨_, mg_Fs rfl rfl, ?_⟩ | refine ⟨Or.inl rfl, ?_⟩ | refine ⟨Or.inr ⟨_, rfl⟩, ?_⟩ | refine ⟨fun _ => ?_, fun h => absurd h (by decide)⟩ | refine ⟨fun h => absurd h (by decide), fun _ => ?_⟩)
  refine ⟨_, _, i + 4, mg_Ao (show mm_old L xs 1000002 = some (0, (L, .inl xs)) from rfl) (by decide), mg_ixE ((Int32.ofNat_add i 4).symm) (by omega), by omega, ?_⟩
  repeat (first | refine ⟨_, mg_Fs rfl rfl, ?_⟩ | refine ⟨Or.inl rfl, ?_⟩ | refine ⟨Or.inr ⟨_, rfl⟩, ?_⟩ | refine ⟨fun _ => ?_, fun h => absurd h (by decide)⟩ | refine ⟨fun h => absurd h (by decide), fun _ => ?_⟩)
  refine ⟨_, _, i + 5, mg_Ao (show mm_old L xs 1000002 = some (0, (L, .inl xs)) from rfl) (by decide), mg_ixE ((Int32.ofNat_add i 5).symm) (by omega), by omega, ?_⟩
  repeat (first | refine ⟨_, mg_Fs rfl rfl, ?_⟩ | refine ⟨Or.inl rfl, ?_⟩ | refine ⟨Or.inr ⟨_, rfl⟩, ?_⟩ | refine ⟨fun _ => ?_, fun h => absurd h (by decide)⟩ | refine ⟨fun h => absurd h (by decide), fun _ => ?_⟩)
  refine mg_m_mono (hu G1 (hr.fo hF1)) (by omega) ?_
  rintro o q2 G2 ⟨rfl, rfl, hT2, hF2, h10⟩
  repeat (first | refine ⟨_, mg_Fs rfl rfl, ?_⟩ | refine ⟨Or.inl rfl, ?_⟩ | refine ⟨Or.inr ⟨_, rfl⟩, ?_⟩ | refine ⟨fun _ => ?_, fun h => absurd h (by decide)⟩ | refine ⟨fun h => absurd h (by decide), fun _ => ?_⟩)
  refine mg_cv (r174 0 h10) (by omega) ?_
  repeat (first | refine ⟨_, mg_Fs rfl rfl, ?_⟩ | refine ⟨Or.inl rfl, ?_⟩ | refine ⟨Or.inr ⟨_, rfl⟩, ?_⟩ | refine ⟨fun _ => ?_, fun h => absurd h (by decide)⟩ | refine ⟨fun h => absurd h (by decide), fun _ => ?_⟩)
  refine ⟨fun _ => ?_, fun z => absurd rfl z⟩
  refine ⟨fun z => ?_, fun z => ?_⟩
  · exact hn.go (hT1.rF hF2) hT2 hq (fun o j G3 w => ⟨w.1, w.2⟩)
  · refine ⟨1, _, 0, mg_Al rfl (by decide), ⟨by decide, by decide⟩, by decide, ?_⟩
    refine ⟨fun z2 => ?_, fun z2 => ?_⟩
    · exact hn.go (hT1.rF hF2) hT2 hq (fun o j G3 w => ⟨w.1, w.2⟩)
    · exact (z2 ((lg_cmp_eq _ _).mpr ((congrFun (hF2 169 (Or.inr (by decide))).2.1 0).trans (hv z)))).elim
theorem lx_0 (d i n : Nat) (e6 e7 e8 : Option Value) (hL : L ≤ 3072) (hi : i + 6 ≤ L) (hc : cT G S) (hr : rT G S) (hn : lwN L xs (d + 821) i n) : mg_wp (mg_KM (L, xs) shO) mc_law (d + 821) 268 [some (.ref 1000002), some (.ref 0), some (.ref 148), some (.ref 169), some (.ref 170), some (.int (Int32.ofNat i)), e6, e7, e8] [] G (lwQ (n + 1)) :=
  lw_0 (S' := ((p206 S (xs (i + 1)) (xs (i + 2)) (xs (i + 3)) (xs (i + 4)) (xs (i + 5)))).1) (a := ((p206 S (xs (i + 1)) (xs (i + 2)) (xs (i + 3)) (xs (i + 4)) (xs (i + 5)))).2) d i n e6 e7 e8 hL hi hr hn (w343 d (xs (i + 1)) (xs (i + 2)) (xs (i + 3)) (xs (i + 4)) (xs (i + 5)) (mg_m_mono (c104 d hc (xs (i + 1)) (xs (i + 2)) (xs (i + 3)) (xs (i + 4)) (xs (i + 5))) (by omega) (fun _ _ _ h => h)) (g206_ (xs (i + 1)) (xs (i + 2)) (xs (i + 3)) (xs (i + 4)) (xs (i + 5)))) (fun G1 h1 => u206 d h1 (xs (i + 1)) (xs (i + 2)) (xs (i + 3)) (xs (i + 4)) (xs (i + 5)))
theorem lw_1 (d i n : Nat) (e6 e7 e8 : Option Value) (hL : L ≤ 3072) (hi : i + 6 ≤ L) (hr : rT G S) (hn : lwN L xs (d + 821) i n)
    (hw : mg_m (mg_KM (L, xs) shO) (d + 821) 344 [.ref 0, .int (xs (i + 1)), .ref 169] G (wP9 G S' a))
    (hu : ∀ G1, rT G1 S → mg_m (mg_KM (L, xs) shO) (d + 820) 207 [.ref 148, .int (xs (i + 1))] G1 (rW9 G1 S' a)) :
    mg_wp (mg_KM (L, xs) shO) mc_law (d + 821) 372 [some (.ref 1000002), some (.ref 0), some (.ref 148), some (.ref 169), some (.ref 170), some (.int (Int32.ofNat i)), e6, e7, e8] [] G (lwQ (n + 1)) := by
  refine mg_goz [3435] 120 372 ms_law mlz_2 ?_
  repeat (first | refine ⟨_, mg_Fs rfl rfl, ?_⟩ | refine ⟨Or.inl rfl, ?_⟩ | refine ⟨Or.inr ⟨_, rfl⟩, ?_⟩ | refine ⟨fun _ => ?_, fun h => absurd h (by decide)⟩ | refine ⟨fun h => absurd h (by decide), fun _ => ?_⟩)
  refine ⟨_, _, i + 1, mg_Ao (show mm_old L xs 1000002 = some (0, (L, .inl xs)) from rfl) (by decide), mg_ixE (mg_inc i) (by omega), by omega, ?_⟩
  repeat (first | refine ⟨_, mg_Fs rfl rfl, ?_⟩ | refine ⟨Or.inl rfl, ?_⟩ | refine ⟨Or.inr ⟨_, rfl⟩, ?_⟩ | refine ⟨fun _ => ?_, fun h => absurd h (by decide)⟩ | refine ⟨fun h => absurd h (by decide), fun _ => ?_⟩)
  refine mg_m_mono (hw) (by omega) ?_
  rintro o q G1 ⟨rfl, hq, hT1, hF1, hv⟩
  repeat (first | refine ⟨_, mg_Fs rfl rfl, ?_⟩ | refine ⟨Or.inl rfl, ?_⟩ | refine ⟨Or.inr ⟨_, rfl⟩, ?_⟩ | refine ⟨fun _ => ?_, fun h => absurd h (by decide)⟩ | refine ⟨fun h => absurd h (by decide), fun _ => ?_⟩)
  refine ⟨_, _, i + 1, mg_Ao (show mm_old L xs 1000002 = some (0, (L, .inl xs)) from rfl) (by decide), mg_ixE (mg_inc i) (by omega), by omega, ?_⟩
  repeat (first | refine ⟨_, mg_Fs rfl rfl, ?_⟩ | refine ⟨Or.inl rfl, ?_⟩ | refine ⟨Or.inr ⟨_, rfl⟩, ?_⟩ | refine ⟨fun _ => ?_, fun h => absurd h (by decide)⟩ | refine ⟨fun h => absurd h (by decide), fun _ => ?_⟩)
  refine mg_m_mono (hu G1 (hr.fo hF1)) (by omega) ?_
  rintro o q2 G2 ⟨rfl, rfl, hT2, hF2, h10⟩
  repeat (first | refine ⟨_, mg_Fs rfl rfl, ?_⟩ | refine ⟨Or.inl rfl, ?_⟩ | refine ⟨Or.inr ⟨_, rfl⟩, ?_⟩ | refine ⟨fun _ => ?_, fun h => absurd h (by decide)⟩ | refine ⟨fun h => absurd h (by decide), fun _ => ?_⟩)
  refine mg_cv (r174 0 h10) (by omega) ?_
  repeat (first | refine ⟨_, mg_Fs rfl rfl, ?_⟩ | refine ⟨Or.inl rfl, ?_⟩ | refine ⟨Or.inr ⟨_, rfl⟩, ?_⟩ | refine ⟨fun _ => ?_, fun h => absurd h (by decide)⟩ | refine ⟨fun h => absurd h (by decide), fun _ => ?_⟩)
  refine ⟨fun _ => ?_, fun z => absurd rfl z⟩
  refine ⟨fun z => ?_, fun z => ?_⟩
  · exact hn.go (hT1.rF hF2) hT2 hq (fun o j G3 w => ⟨w.1, w.2⟩)
  · refine ⟨1, _, 0, mg_Al rfl (by decide), ⟨by decide, by decide⟩, by decide, ?_⟩
    refine ⟨fun z2 => ?_, fun z2 => ?_⟩
    · exact hn.go (hT1.rF hF2) hT2 hq (fun o j G3 w => ⟨w.1, w.2⟩)
    · exact (z2 ((lg_cmp_eq _ _).mpr ((congrFun (hF2 169 (Or.inr (by decide))).2.1 0).trans (hv z)))).elim
theorem lx_1 (d i n : Nat) (e6 e7 e8 : Option Value) (hL : L ≤ 3072) (hi : i + 6 ≤ L) (hc : cT G S) (hr : rT G S) (hn : lwN L xs (d + 821) i n) : mg_wp (mg_KM (L, xs) shO) mc_law (d + 821) 372 [some (.ref 1000002), some (.ref 0), some (.ref 148), some (.ref 169), some (.ref 170), some (.int (Int32.ofNat i)), e6, e7, e8] [] G (lwQ (n + 1)) :=
  lw_1 (S' := ((p207 S (xs (i + 1)))).1) (a := ((p207 S (xs (i + 1)))).2) d i n e6 e7 e8 hL hi hr hn (w344 d (xs (i + 1)) (mg_m_mono (c105 d hc (xs (i + 1))) (by omega) (fun _ _ _ h => h)) (g207_ (xs (i + 1)))) (fun G1 h1 => u207 d h1 (xs (i + 1)))
theorem lw_2 (d i n : Nat) (e6 e7 e8 : Option Value) (hL : L ≤ 3072) (hi : i + 6 ≤ L) (hr : rT G S) (hn : lwN L xs (d + 821) i n)
    (hw : mg_m (mg_KM (L, xs) shO) (d + 821) 345 [.ref 0, .ref 169] G (wP9 G S' a))
    (hu : ∀ G1, rT G1 S → mg_m (mg_KM (L, xs) shO) (d + 820) 245 [.ref 148] G1 (rW9 G1 S' a)) :
    mg_wp (mg_KM (L, xs) shO) mc_law (d + 821) 428 [some (.ref 1000002), some (.ref 0), some (.ref 148), some (.ref 169), some (.ref 170), some (.int (Int32.ofNat i)), e6, e7, e8] [] G (lwQ (n + 1)) := by
  refine mg_goz [3435] 120 428 ms_law mlz_2 ?_
  repeat (first | refine ⟨_, mg_Fs rfl rfl, ?_⟩ | refine ⟨Or.inl rfl, ?_⟩ | refine ⟨Or.inr ⟨_, rfl⟩, ?_⟩ | refine ⟨fun _ => ?_, fun h => absurd h (by decide)⟩ | refine ⟨fun h => absurd h (by decide), fun _ => ?_⟩)
  refine mg_m_mono (hw) (by omega) ?_
  rintro o q G1 ⟨rfl, hq, hT1, hF1, hv⟩
  repeat (first | refine ⟨_, mg_Fs rfl rfl, ?_⟩ | refine ⟨Or.inl rfl, ?_⟩ | refine ⟨Or.inr ⟨_, rfl⟩, ?_⟩ | refine ⟨fun _ => ?_, fun h => absurd h (by decide)⟩ | refine ⟨fun h => absurd h (by decide), fun _ => ?_⟩)
  refine mg_m_mono (hu G1 (hr.fo hF1)) (by omega) ?_
  rintro o q2 G2 ⟨rfl, rfl, hT2, hF2, h10⟩
  repeat (first | refine ⟨_, mg_Fs rfl rfl, ?_⟩ | refine ⟨Or.inl rfl, ?_⟩ | refine ⟨Or.inr ⟨_, rfl⟩, ?_⟩ | refine ⟨fun _ => ?_, fun h => absurd h (by decide)⟩ | refine ⟨fun h => absurd h (by decide), fun _ => ?_⟩)
  refine mg_cv (r174 0 h10) (by omega) ?_
  repeat (first | refine ⟨_, mg_Fs rfl rfl, ?_⟩ | refine ⟨Or.inl rfl, ?_⟩ | refine ⟨Or.inr ⟨_, rfl⟩, ?_⟩ | refine ⟨fun _ => ?_, fun h => absurd h (by decide)⟩ | refine ⟨fun h => absurd h (by decide), fun _ => ?_⟩)
  refine ⟨fun _ => ?_, fun z => absurd rfl z⟩
  refine ⟨fun z => ?_, fun z => ?_⟩
  · exact hn.go (hT1.rF hF2) hT2 hq (fun o j G3 w => ⟨w.1, w.2⟩)
  · refine ⟨1, _, 0, mg_Al rfl (by decide), ⟨by decide, by decide⟩, by decide, ?_⟩
    refine ⟨fun z2 => ?_, fun z2 => ?_⟩
    · exact hn.go (hT1.rF hF2) hT2 hq (fun o j G3 w => ⟨w.1, w.2⟩)
    · exact (z2 ((lg_cmp_eq _ _).mpr ((congrFun (hF2 169 (Or.inr (by decide))).2.1 0).trans (hv z)))).elim
theorem lx_2 (d i n : Nat) (e6 e7 e8 : Option Value) (hL : L ≤ 3072) (hi : i + 6 ≤ L) (hc : cT G S) (hr : rT G S) (hn : lwN L xs (d + 821) i n) : mg_wp (mg_KM (L, xs) shO) mc_law (d + 821) 428 [some (.ref 1000002), some (.ref 0), some (.ref 148), some (.ref 169), some (.ref 170), some (.int (Int32.ofNat i)), e6, e7, e8] [] G (lwQ (n + 1)) :=
  lw_2 (S' := ((p245 S)).1) (a := ((p245 S)).2) d i n e6 e7 e8 hL hi hr hn (w345 d  (mg_m_mono (c106 d hc ) (by omega) (fun _ _ _ h => h)) (g245_ )) (fun G1 h1 => u245 d h1 )
theorem lw_3 (d i n : Nat) (e6 e7 e8 : Option Value) (hL : L ≤ 3072) (hi : i + 6 ≤ L) (hr : rT G S) (hn : lwN L xs (d + 821) i n)
    (h0 : a.1 = 0) (hw : mg_m (mg_KM (L, xs) shO) (d + 821) 107 [.ref 0] G (cA G (ex1 xI) S' a))
    (hu : ∀ G1, rT G1 S → mg_m (mg_KM (L, xs) shO) (d + 820) 254 [.ref 148] G1 (rW9 G1 S' a)) :
    mg_wp (mg_KM (L, xs) shO) mc_law (d + 821) 472 [some (.ref 1000002), some (.ref 0), some (.ref 148), some (.ref 169), some (.ref 170), some (.int (Int32.ofNat i)), e6, e7, e8] [] G (lwQ (n + 1)) := by
  refine mg_goz [3435] 120 472 ms_law mlz_3 ?_
  repeat (first | refine ⟨_, mg_Fs rfl rfl, ?_⟩ | refine ⟨Or.inl rfl, ?_⟩ | refine ⟨Or.inr ⟨_, rfl⟩, ?_⟩ | refine ⟨fun _ => ?_, fun h => absurd h (by decide)⟩ | refine ⟨fun h => absurd h (by decide), fun _ => ?_⟩)
  refine mg_m_mono (hw) (by omega) ?_
  rintro o q G1 ⟨h, hq, hT1, hF1⟩
  rcases h with ⟨-, rfl⟩ | ⟨h, -⟩
  · repeat (first | refine ⟨_, mg_Fs rfl rfl, ?_⟩ | refine ⟨Or.inl rfl, ?_⟩ | refine ⟨Or.inr ⟨_, rfl⟩, ?_⟩ | refine ⟨fun _ => ?_, fun h => absurd h (by decide)⟩ | refine ⟨fun h => absurd h (by decide), fun _ => ?_⟩)
    refine mg_m_mono (hu G1 (hr.fc (hF1.mono (fun b hb => Or.inl hb)))) (by omega) ?_
    rintro o q2 G2 ⟨rfl, rfl, hT2, hF2, h10⟩
    refine ⟨fun _ => ?_, fun z => absurd rfl z⟩
    exact hn.go (hT1.rF hF2) hT2 hq (fun o j G3 w => ⟨w.1, w.2⟩)
  · exact absurd h0 h
theorem lx_3 (d i n : Nat) (e6 e7 e8 : Option Value) (hL : L ≤ 3072) (hi : i + 6 ≤ L) (hc : cT G S) (hr : rT G S) (hn : lwN L xs (d + 821) i n) : mg_wp (mg_KM (L, xs) shO) mc_law (d + 821) 472 [some (.ref 1000002), some (.ref 0), some (.ref 148), some (.ref 169), some (.ref 170), some (.int (Int32.ofNat i)), e6, e7, e8] [] G (lwQ (n + 1)) :=
  lw_3 (S' := S) (a := (0, sC S)) d i n e6 e7 e8 hL hi hr hn rfl (mg_m_mono (c107 d hc ) (by omega) (fun _ _ _ h => h)) (fun G1 h1 => u254 d h1)
theorem lw_4 (d i n : Nat) (e6 e7 e8 : Option Value) (hL : L ≤ 3072) (hi : i + 6 ≤ L) (hr : rT G S) (hn : lwN L xs (d + 821) i n)
    (h0 : a.1 = 0) (hw : mg_m (mg_KM (L, xs) shO) (d + 821) 108 [.ref 0] G (cA G (ex1 xI) S' a))
    (hu : ∀ G1, rT G1 S → mg_m (mg_KM (L, xs) shO) (d + 820) 255 [.ref 148] G1 (rW9 G1 S' a)) :
    mg_wp (mg_KM (L, xs) shO) mc_law (d + 821) 485 [some (.ref 1000002), some (.ref 0), some (.ref 148), some (.ref 169), some (.ref 170), some (.int (Int32.ofNat i)), e6, e7, e8] [] G (lwQ (n + 1)) := by
  refine mg_goz [3435] 120 485 ms_law mlz_3 ?_
  repeat (first | refine ⟨_, mg_Fs rfl rfl, ?_⟩ | refine ⟨Or.inl rfl, ?_⟩ | refine ⟨Or.inr ⟨_, rfl⟩, ?_⟩ | refine ⟨fun _ => ?_, fun h => absurd h (by decide)⟩ | refine ⟨fun h => absurd h (by decide), fun _ => ?_⟩)
  refine mg_m_mono (hw) (by omega) ?_
  rintro o q G1 ⟨h, hq, hT1, hF1⟩
  rcases h with ⟨-, rfl⟩ | ⟨h, -⟩
  · repeat (first | refine ⟨_, mg_Fs rfl rfl, ?_⟩ | refine ⟨Or.inl rfl, ?_⟩ | refine ⟨Or.inr ⟨_, rfl⟩, ?_⟩ | refine ⟨fun _ => ?_, fun h => absurd h (by decide)⟩ | refine ⟨fun h => absurd h (by decide), fun _ => ?_⟩)
    refine mg_m_mono (hu G1 (hr.fc (hF1.mono (fun b hb => Or.inl hb)))) (by omega) ?_
    rintro o q2 G2 ⟨rfl, rfl, hT2, hF2, h10⟩
    refine ⟨fun _ => ?_, fun z => absurd rfl z⟩
    exact hn.go (hT1.rF hF2) hT2 hq (fun o j G3 w => ⟨w.1, w.2⟩)
  · exact absurd h0 h
theorem lx_4 (d i n : Nat) (e6 e7 e8 : Option Value) (hL : L ≤ 3072) (hi : i + 6 ≤ L) (hc : cT G S) (hr : rT G S) (hn : lwN L xs (d + 821) i n) : mg_wp (mg_KM (L, xs) shO) mc_law (d + 821) 485 [some (.ref 1000002), some (.ref 0), some (.ref 148), some (.ref 169), some (.ref 170), some (.int (Int32.ofNat i)), e6, e7, e8] [] G (lwQ (n + 1)) :=
  lw_4 (S' := S) (a := (0, sP S)) d i n e6 e7 e8 hL hi hr hn rfl (mg_m_mono (c108 d hc ) (by omega) (fun _ _ _ h => h)) (fun G1 h1 => u255 d h1)
theorem lw_5 (d i n : Nat) (e6 e7 e8 : Option Value) (hL : L ≤ 3072) (hi : i + 6 ≤ L) (hr : rT G S) (hn : lwN L xs (d + 821) i n)
    (hw : mg_m (mg_KM (L, xs) shO) (d + 821) 346 [.ref 0, .int (xs (i + 1)), .ref 169] G (wP9 G S' a))
    (hu : ∀ G1, rT G1 S → mg_m (mg_KM (L, xs) shO) (d + 820) 260 [.ref 148, .int (xs (i + 1))] G1 (rW9 G1 S' a)) :
    mg_wp (mg_KM (L, xs) shO) mc_law (d + 821) 498 [some (.ref 1000002), some (.ref 0), some (.ref 148), some (.ref 169), some (.ref 170), some (.int (Int32.ofNat i)), e6, e7, e8] [] G (lwQ (n + 1)) := by
  refine mg_goz [3435] 120 498 ms_law mlz_3 ?_
  repeat (first | refine ⟨_, mg_Fs rfl rfl, ?_⟩ | refine ⟨Or.inl rfl, ?_⟩ | refine ⟨Or.inr ⟨_, rfl⟩, ?_⟩ | refine ⟨fun _ => ?_, fun h => absurd h (by decide)⟩ | refine ⟨fun h => absurd h (by decide), fun _ => ?_⟩)
  refine ⟨_, _, i + 1, mg_Ao (show mm_old L xs 1000002 = some (0, (L, .inl xs)) from rfl) (by decide), mg_ixE (mg_inc i) (by omega), by omega, ?_⟩
  repeat (first | refine ⟨_, mg_Fs rfl rfl, ?_⟩ | refine ⟨Or.inl rfl, ?_⟩ | refine ⟨Or.inr ⟨_, rfl⟩, ?_⟩ | refine ⟨fun _ => ?_, fun h => absurd h (by decide)⟩ | refine ⟨fun h => absurd h (by decide), fun _ => ?_⟩)
  refine mg_m_mono (hw) (by omega) ?_
  rintro o q G1 ⟨rfl, hq, hT1, hF1, hv⟩
  repeat (first | refine ⟨_, mg_Fs rfl rfl, ?_⟩ | refine ⟨Or.inl rfl, ?_⟩ | refine ⟨Or.inr ⟨_, rfl⟩, ?_⟩ | refine ⟨fun _ => ?_, fun h => absurd h (by decide)⟩ | refine ⟨fun h => absurd h (by decide), fun _ => ?_⟩)
  refine ⟨_, _, i + 1, mg_Ao (show mm_old L xs 1000002 = some (0, (L, .inl xs)) from rfl) (by decide), mg_ixE (mg_inc i) (by omega), by omega, ?_⟩
  repeat (first | refine ⟨_, mg_Fs rfl rfl, ?_⟩ | refine ⟨Or.inl rfl, ?_⟩ | refine ⟨Or.inr ⟨_, rfl⟩, ?_⟩ | refine ⟨fun _ => ?_, fun h => absurd h (by decide)⟩ | refine ⟨fun h => absurd h (by decide), fun _ => ?_⟩)
  refine mg_m_mono (hu G1 (hr.fo hF1)) (by omega) ?_
  rintro o q2 G2 ⟨rfl, rfl, hT2, hF2, h10⟩
  repeat (first | refine ⟨_, mg_Fs rfl rfl, ?_⟩ | refine ⟨Or.inl rfl, ?_⟩ | refine ⟨Or.inr ⟨_, rfl⟩, ?_⟩ | refine ⟨fun _ => ?_, fun h => absurd h (by decide)⟩ | refine ⟨fun h => absurd h (by decide), fun _ => ?_⟩)
  refine mg_cv (r174 0 h10) (by omega) ?_
  repeat (first | refine ⟨_, mg_Fs rfl rfl, ?_⟩ | refine ⟨Or.inl rfl, ?_⟩ | refine ⟨Or.inr ⟨_, rfl⟩, ?_⟩ | refine ⟨fun _ => ?_, fun h => absurd h (by decide)⟩ | refine ⟨fun h => absurd h (by decide), fun _ => ?_⟩)
  refine ⟨fun _ => ?_, fun z => absurd rfl z⟩
  refine ⟨fun z => ?_, fun z => ?_⟩
  · exact hn.go (hT1.rF hF2) hT2 hq (fun o j G3 w => ⟨w.1, w.2⟩)
  · refine ⟨1, _, 0, mg_Al rfl (by decide), ⟨by decide, by decide⟩, by decide, ?_⟩
    refine ⟨fun z2 => ?_, fun z2 => ?_⟩
    · exact hn.go (hT1.rF hF2) hT2 hq (fun o j G3 w => ⟨w.1, w.2⟩)
    · exact (z2 ((lg_cmp_eq _ _).mpr ((congrFun (hF2 169 (Or.inr (by decide))).2.1 0).trans (hv z)))).elim
theorem lx_5 (d i n : Nat) (e6 e7 e8 : Option Value) (hL : L ≤ 3072) (hi : i + 6 ≤ L) (hc : cT G S) (hr : rT G S) (hn : lwN L xs (d + 821) i n) : mg_wp (mg_KM (L, xs) shO) mc_law (d + 821) 498 [some (.ref 1000002), some (.ref 0), some (.ref 148), some (.ref 169), some (.ref 170), some (.int (Int32.ofNat i)), e6, e7, e8] [] G (lwQ (n + 1)) :=
  lw_5 (S' := S) (a := (q260 (sA S) (sU S).length (xs (i + 1)))) d i n e6 e7 e8 hL hi hr hn (w346 d (xs (i + 1)) (mg_m_mono (c109 d hc (xs (i + 1))) (by omega) (fun _ _ _ h => h)) (g260_ (xs (i + 1)))) (fun G1 h1 => u260 d h1 (xs (i + 1)))
theorem lw_6 (d i n : Nat) (e6 e7 e8 : Option Value) (hL : L ≤ 3072) (hi : i + 6 ≤ L) (hr : rT G S) (hn : lwN L xs (d + 821) i n)
    (hw : mg_m (mg_KM (L, xs) shO) (d + 821) 347 [.ref 0, .int (xs (i + 1)), .int (xs (i + 2)), .ref 169] G (wP9 G S' a))
    (hu : ∀ G1, rT G1 S → mg_m (mg_KM (L, xs) shO) (d + 820) 261 [.ref 148, .int (xs (i + 1)), .int (xs (i + 2))] G1 (rW9 G1 S' a)) :
    mg_wp (mg_KM (L, xs) shO) mc_law (d + 821) 554 [some (.ref 1000002), some (.ref 0), some (.ref 148), some (.ref 169), some (.ref 170), some (.int (Int32.ofNat i)), e6, e7, e8] [] G (lwQ (n + 1)) := by
  refine mg_goz [3435] 120 554 ms_law mlz_4 ?_
  repeat (first | refine ⟨_, mg_Fs rfl rfl, ?_⟩ | refine ⟨Or.inl rfl, ?_⟩ | refine ⟨Or.inr ⟨_, rfl⟩, ?_⟩ | refine ⟨fun _ => ?_, fun h => absurd h (by decide)⟩ | refine ⟨fun h => absurd h (by decide), fun _ => ?_⟩)
  refine ⟨_, _, i + 1, mg_Ao (show mm_old L xs 1000002 = some (0, (L, .inl xs)) from rfl) (by decide), mg_ixE (mg_inc i) (by omega), by omega, ?_⟩
  repeat (first | refine ⟨_, mg_Fs rfl rfl, ?_⟩ | refine ⟨Or.inl rfl, ?_⟩ | refine ⟨Or.inr ⟨_, rfl⟩, ?_⟩ | refine ⟨fun _ => ?_, fun h => absurd h (by decide)⟩ | refine ⟨fun h => absurd h (by decide), fun _ => ?_⟩)
  refine ⟨_, _, i + 2, mg_Ao (show mm_old L xs 1000002 = some (0, (L, .inl xs)) from rfl) (by decide), mg_ixE ((Int32.ofNat_add i 2).symm) (by omega), by omega, ?_⟩
  repeat (first | refine ⟨_, mg_Fs rfl rfl, ?_⟩ | refine ⟨Or.inl rfl, ?_⟩ | refine ⟨Or.inr ⟨_, rfl⟩, ?_⟩ | refine ⟨fun _ => ?_, fun h => absurd h (by decide)⟩ | refine ⟨fun h => absurd h (by decide), fun _ => ?_⟩)
  refine mg_m_mono (hw) (by omega) ?_
  rintro o q G1 ⟨rfl, hq, hT1, hF1, hv⟩
  repeat (first | refine ⟨_, mg_Fs rfl rfl, ?_⟩ | refine ⟨Or.inl rfl, ?_⟩ | refine ⟨Or.inr ⟨_, rfl⟩, ?_⟩ | refine ⟨fun _ => ?_, fun h => absurd h (by decide)⟩ | refine ⟨fun h => absurd h (by decide), fun _ => ?_⟩)
  refine ⟨_, _, i + 1, mg_Ao (show mm_old L xs 1000002 = some (0, (L, .inl xs)) from rfl) (by decide), mg_ixE (mg_inc i) (by omega), by omega, ?_⟩
  repeat (first | refine ⟨_, mg_Fs rfl rfl, ?_⟩ | refine ⟨Or.inl rfl, ?_⟩ | refine ⟨Or.inr ⟨_, rfl⟩, ?_⟩ | refine ⟨fun _ => ?_, fun h => absurd h (by decide)⟩ | refine ⟨fun h => absurd h (by decide), fun _ => ?_⟩)
  refine ⟨_, _, i + 2, mg_Ao (show mm_old L xs 1000002 = some (0, (L, .inl xs)) from rfl) (by decide), mg_ixE ((Int32.ofNat_add i 2).symm) (by omega), by omega, ?_⟩
  repeat (first | refine ⟨_, mg_Fs rfl rfl, ?_⟩ | refine ⟨Or.inl rfl, ?_⟩ | refine ⟨Or.inr ⟨_, rfl⟩, ?_⟩ | refine ⟨fun _ => ?_, fun h => absurd h (by decide)⟩ | refine ⟨fun h => absurd h (by decide), fun _ => ?_⟩)
  refine mg_m_mono (hu G1 (hr.fo hF1)) (by omega) ?_
  rintro o q2 G2 ⟨rfl, rfl, hT2, hF2, h10⟩
  repeat (first | refine ⟨_, mg_Fs rfl rfl, ?_⟩ | refine ⟨Or.inl rfl, ?_⟩ | refine ⟨Or.inr ⟨_, rfl⟩, ?_⟩ | refine ⟨fun _ => ?_, fun h => absurd h (by decide)⟩ | refine ⟨fun h => absurd h (by decide), fun _ => ?_⟩)
  refine mg_cv (r174 0 h10) (by omega) ?_
  repeat (first | refine ⟨_, mg_Fs rfl rfl, ?_⟩ | refine ⟨Or.inl rfl, ?_⟩ | refine ⟨Or.inr ⟨_, rfl⟩, ?_⟩ | refine ⟨fun _ => ?_, fun h => absurd h (by decide)⟩ | refine ⟨fun h => absurd h (by decide), fun _ => ?_⟩)
  refine ⟨fun _ => ?_, fun z => absurd rfl z⟩
  refine ⟨fun z => ?_, fun z => ?_⟩
  · exact hn.go (hT1.rF hF2) hT2 hq (fun o j G3 w => ⟨w.1, w.2⟩)
  · refine ⟨1, _, 0, mg_Al rfl (by decide), ⟨by decide, by decide⟩, by decide, ?_⟩
    refine ⟨fun z2 => ?_, fun z2 => ?_⟩
    · exact hn.go (hT1.rF hF2) hT2 hq (fun o j G3 w => ⟨w.1, w.2⟩)
    · exact (z2 ((lg_cmp_eq _ _).mpr ((congrFun (hF2 169 (Or.inr (by decide))).2.1 0).trans (hv z)))).elim
theorem lx_6 (d i n : Nat) (e6 e7 e8 : Option Value) (hL : L ≤ 3072) (hi : i + 6 ≤ L) (hc : cT G S) (hr : rT G S) (hn : lwN L xs (d + 821) i n) : mg_wp (mg_KM (L, xs) shO) mc_law (d + 821) 554 [some (.ref 1000002), some (.ref 0), some (.ref 148), some (.ref 169), some (.ref 170), some (.int (Int32.ofNat i)), e6, e7, e8] [] G (lwQ (n + 1)) :=
  lw_6 (S' := S) (a := (q261 (sA S) (xs (i + 1)) (xs (i + 2)))) d i n e6 e7 e8 hL hi hr hn (w347 d (xs (i + 1)) (xs (i + 2)) (mg_m_mono (c110 d hc (xs (i + 1)) (xs (i + 2))) (by omega) (fun _ _ _ h => h)) (g261_ (xs (i + 1)) (xs (i + 2)))) (fun G1 h1 => u261 d h1 (xs (i + 1)) (xs (i + 2)))
theorem lw_7 (d i n : Nat) (e6 e7 e8 : Option Value) (hL : L ≤ 3072) (hi : i + 6 ≤ L) (hr : rT G S) (hn : lwN L xs (d + 821) i n)
    (hw : mg_m (mg_KM (L, xs) shO) (d + 821) 348 [.ref 0, .int (xs (i + 1)), .ref 169] G (wP9 G S' a))
    (hu : ∀ G1, rT G1 S → mg_m (mg_KM (L, xs) shO) (d + 820) 262 [.ref 148, .int (xs (i + 1))] G1 (rW9 G1 S' a)) :
    mg_wp (mg_KM (L, xs) shO) mc_law (d + 821) 622 [some (.ref 1000002), some (.ref 0), some (.ref 148), some (.ref 169), some (.ref 170), some (.int (Int32.ofNat i)), e6, e7, e8] [] G (lwQ (n + 1)) := by
  refine mg_goz [3435] 120 622 ms_law mlz_5 ?_
  repeat (first | refine ⟨_, mg_Fs rfl rfl, ?_⟩ | refine ⟨Or.inl rfl, ?_⟩ | refine ⟨Or.inr ⟨_, rfl⟩, ?_⟩ | refine ⟨fun _ => ?_, fun h => absurd h (by decide)⟩ | refine ⟨fun h => absurd h (by decide), fun _ => ?_⟩)
  refine ⟨_, _, i + 1, mg_Ao (show mm_old L xs 1000002 = some (0, (L, .inl xs)) from rfl) (by decide), mg_ixE (mg_inc i) (by omega), by omega, ?_⟩
  repeat (first | refine ⟨_, mg_Fs rfl rfl, ?_⟩ | refine ⟨Or.inl rfl, ?_⟩ | refine ⟨Or.inr ⟨_, rfl⟩, ?_⟩ | refine ⟨fun _ => ?_, fun h => absurd h (by decide)⟩ | refine ⟨fun h => absurd h (by decide), fun _ => ?_⟩)
  refine mg_m_mono (hw) (by omega) ?_
  rintro o q G1 ⟨rfl, hq, hT1, hF1, hv⟩
  repeat (first | refine ⟨_, mg_Fs rfl rfl, ?_⟩ | refine ⟨Or.inl rfl, ?_⟩ | refine ⟨Or.inr ⟨_, rfl⟩, ?_⟩ | refine ⟨fun _ => ?_, fun h => absurd h (by decide)⟩ | refine ⟨fun h => absurd h (by decide), fun _ => ?_⟩)
  refine ⟨_, _, i + 1, mg_Ao (show mm_old L xs 1000002 = some (0, (L, .inl xs)) from rfl) (by decide), mg_ixE (mg_inc i) (by omega), by omega, ?_⟩
  repeat (first | refine ⟨_, mg_Fs rfl rfl, ?_⟩ | refine ⟨Or.inl rfl, ?_⟩ | refine ⟨Or.inr ⟨_, rfl⟩, ?_⟩ | refine ⟨fun _ => ?_, fun h => absurd h (by decide)⟩ | refine ⟨fun h => absurd h (by decide), fun _ => ?_⟩)
  refine mg_m_mono (hu G1 (hr.fo hF1)) (by omega) ?_
  rintro o q2 G2 ⟨rfl, rfl, hT2, hF2, h10⟩
  repeat (first | refine ⟨_, mg_Fs rfl rfl, ?_⟩ | refine ⟨Or.inl rfl, ?_⟩ | refine ⟨Or.inr ⟨_, rfl⟩, ?_⟩ | refine ⟨fun _ => ?_, fun h => absurd h (by decide)⟩ | refine ⟨fun h => absurd h (by decide), fun _ => ?_⟩)
  refine mg_cv (r174 0 h10) (by omega) ?_
  repeat (first | refine ⟨_, mg_Fs rfl rfl, ?_⟩ | refine ⟨Or.inl rfl, ?_⟩ | refine ⟨Or.inr ⟨_, rfl⟩, ?_⟩ | refine ⟨fun _ => ?_, fun h => absurd h (by decide)⟩ | refine ⟨fun h => absurd h (by decide), fun _ => ?_⟩)
  refine ⟨fun _ => ?_, fun z => absurd rfl z⟩
  refine ⟨fun z => ?_, fun z => ?_⟩
  · exact hn.go (hT1.rF hF2) hT2 hq (fun o j G3 w => ⟨w.1, w.2⟩)
  · refine ⟨1, _, 0, mg_Al rfl (by decide), ⟨by decide, by decide⟩, by decide, ?_⟩
    refine ⟨fun z2 => ?_, fun z2 => ?_⟩
    · exact hn.go (hT1.rF hF2) hT2 hq (fun o j G3 w => ⟨w.1, w.2⟩)
    · exact (z2 ((lg_cmp_eq _ _).mpr ((congrFun (hF2 169 (Or.inr (by decide))).2.1 0).trans (hv z)))).elim
theorem lx_7 (d i n : Nat) (e6 e7 e8 : Option Value) (hL : L ≤ 3072) (hi : i + 6 ≤ L) (hc : cT G S) (hr : rT G S) (hn : lwN L xs (d + 821) i n) : mg_wp (mg_KM (L, xs) shO) mc_law (d + 821) 622 [some (.ref 1000002), some (.ref 0), some (.ref 148), some (.ref 169), some (.ref 170), some (.int (Int32.ofNat i)), e6, e7, e8] [] G (lwQ (n + 1)) :=
  lw_7 (S' := S) (a := (q262 (sA S) (xs (i + 1)))) d i n e6 e7 e8 hL hi hr hn (w348 d (xs (i + 1)) (mg_m_mono (c111 d hc (xs (i + 1))) (by omega) (fun _ _ _ h => h)) (g262_ (xs (i + 1)))) (fun G1 h1 => u262 d h1 (xs (i + 1)))
theorem lw_8 (d i n : Nat) (e6 e7 e8 : Option Value) (hL : L ≤ 3072) (hi : i + 6 ≤ L) (hr : rT G S) (hn : lwN L xs (d + 821) i n)
    (hw : mg_m (mg_KM (L, xs) shO) (d + 821) 349 [.ref 0, .int (xs (i + 1)), .int (xs (i + 2)), .ref 169] G (wP9 G S' a))
    (hu : ∀ G1, rT G1 S → mg_m (mg_KM (L, xs) shO) (d + 820) 264 [.ref 148, .int (xs (i + 1)), .int (xs (i + 2))] G1 (rW9 G1 S' a)) :
    mg_wp (mg_KM (L, xs) shO) mc_law (d + 821) 678 [some (.ref 1000002), some (.ref 0), some (.ref 148), some (.ref 169), some (.ref 170), some (.int (Int32.ofNat i)), e6, e7, e8] [] G (lwQ (n + 1)) := by
  refine mg_goz [3435] 120 678 ms_law mlz_5 ?_
  repeat (first | refine ⟨_, mg_Fs rfl rfl, ?_⟩ | refine ⟨Or.inl rfl, ?_⟩ | refine ⟨Or.inr ⟨_, rfl⟩, ?_⟩ | refine ⟨fun _ => ?_, fun h => absurd h (by decide)⟩ | refine ⟨fun h => absurd h (by decide), fun _ => ?_⟩)
  refine ⟨_, _, i + 1, mg_Ao (show mm_old L xs 1000002 = some (0, (L, .inl xs)) from rfl) (by decide), mg_ixE (mg_inc i) (by omega), by omega, ?_⟩
  repeat (first | refine ⟨_, mg_Fs rfl rfl, ?_⟩ | refine ⟨Or.inl rfl, ?_⟩ | refine ⟨Or.inr ⟨_, rfl⟩, ?_⟩ | refine ⟨fun _ => ?_, fun h => absurd h (by decide)⟩ | refine ⟨fun h => absurd h (by decide), fun _ => ?_⟩)
  refine ⟨_, _, i + 2, mg_Ao (show mm_old L xs 1000002 = some (0, (L, .inl xs)) from rfl) (by decide), mg_ixE ((Int32.ofNat_add i 2).symm) (by omega), by omega, ?_⟩
  repeat (first | refine ⟨_, mg_Fs rfl rfl, ?_⟩ | refine ⟨Or.inl rfl, ?_⟩ | refine ⟨Or.inr ⟨_, rfl⟩, ?_⟩ | refine ⟨fun _ => ?_, fun h => absurd h (by decide)⟩ | refine ⟨fun h => absurd h (by decide), fun _ => ?_⟩)
  refine mg_m_mono (hw) (by omega) ?_
  rintro o q G1 ⟨rfl, hq, hT1, hF1, hv⟩
  repeat (first | refine ⟨_, mg_Fs rfl rfl, ?_⟩ | refine ⟨Or.inl rfl, ?_⟩ | refine ⟨Or.inr ⟨_, rfl⟩, ?_⟩ | refine ⟨fun _ => ?_, fun h => absurd h (by decide)⟩ | refine ⟨fun h => absurd h (by decide), fun _ => ?_⟩)
  refine ⟨_, _, i + 1, mg_Ao (show mm_old L xs 1000002 = some (0, (L, .inl xs)) from rfl) (by decide), mg_ixE (mg_inc i) (by omega), by omega, ?_⟩
  repeat (first | refine ⟨_, mg_Fs rfl rfl, ?_⟩ | refine ⟨Or.inl rfl, ?_⟩ | refine ⟨Or.inr ⟨_, rfl⟩, ?_⟩ | refine ⟨fun _ => ?_, fun h => absurd h (by decide)⟩ | refine ⟨fun h => absurd h (by decide), fun _ => ?_⟩)
  refine ⟨_, _, i + 2, mg_Ao (show mm_old L xs 1000002 = some (0, (L, .inl xs)) from rfl) (by decide), mg_ixE ((Int32.ofNat_add i 2).symm) (by omega), by omega, ?_⟩
  repeat (first | refine ⟨_, mg_Fs rfl rfl, ?_⟩ | refine ⟨Or.inl rfl, ?_⟩ | refine ⟨Or.inr ⟨_, rfl⟩, ?_⟩ | refine ⟨fun _ => ?_, fun h => absurd h (by decide)⟩ | refine ⟨fun h => absurd h (by decide), fun _ => ?_⟩)
  refine mg_m_mono (hu G1 (hr.fo hF1)) (by omega) ?_
  rintro o q2 G2 ⟨rfl, rfl, hT2, hF2, h10⟩
  repeat (first | refine ⟨_, mg_Fs rfl rfl, ?_⟩ | refine ⟨Or.inl rfl, ?_⟩ | refine ⟨Or.inr ⟨_, rfl⟩, ?_⟩ | refine ⟨fun _ => ?_, fun h => absurd h (by decide)⟩ | refine ⟨fun h => absurd h (by decide), fun _ => ?_⟩)
  refine mg_cv (r174 0 h10) (by omega) ?_
  repeat (first | refine ⟨_, mg_Fs rfl rfl, ?_⟩ | refine ⟨Or.inl rfl, ?_⟩ | refine ⟨Or.inr ⟨_, rfl⟩, ?_⟩ | refine ⟨fun _ => ?_, fun h => absurd h (by decide)⟩ | refine ⟨fun h => absurd h (by decide), fun _ => ?_⟩)
  refine ⟨fun _ => ?_, fun z => absurd rfl z⟩
  refine ⟨fun z => ?_, fun z => ?_⟩
  · exact hn.go (hT1.rF hF2) hT2 hq (fun o j G3 w => ⟨w.1, w.2⟩)
  · refine ⟨1, _, 0, mg_Al rfl (by decide), ⟨by decide, by decide⟩, by decide, ?_⟩
    refine ⟨fun z2 => ?_, fun z2 => ?_⟩
    · exact hn.go (hT1.rF hF2) hT2 hq (fun o j G3 w => ⟨w.1, w.2⟩)
    · exact (z2 ((lg_cmp_eq _ _).mpr ((congrFun (hF2 169 (Or.inr (by decide))).2.1 0).trans (hv z)))).elim
theorem lx_8 (d i n : Nat) (e6 e7 e8 : Option Value) (hL : L ≤ 3072) (hi : i + 6 ≤ L) (hc : cT G S) (hr : rT G S) (hn : lwN L xs (d + 821) i n) : mg_wp (mg_KM (L, xs) shO) mc_law (d + 821) 678 [some (.ref 1000002), some (.ref 0), some (.ref 148), some (.ref 169), some (.ref 170), some (.int (Int32.ofNat i)), e6, e7, e8] [] G (lwQ (n + 1)) :=
  lw_8 (S' := S) (a := (q264 (sA S) (xs (i + 1)) (xs (i + 2)))) d i n e6 e7 e8 hL hi hr hn (w349 d (xs (i + 1)) (xs (i + 2)) (mg_m_mono (c112 d hc (xs (i + 1)) (xs (i + 2))) (by omega) (fun _ _ _ h => h)) (g264_ (xs (i + 1)) (xs (i + 2)))) (fun G1 h1 => u264 d h1 (xs (i + 1)) (xs (i + 2)))
theorem lw_9 (d i n : Nat) (e6 e7 e8 : Option Value) (hL : L ≤ 3072) (hi : i + 6 ≤ L) (hr : rT G S) (hn : lwN L xs (d + 821) i n)
    (hw : mg_m (mg_KM (L, xs) shO) (d + 821) 350 [.ref 0, .ref 169] G (wP9 G S' a))
    (hu : ∀ G1, rT G1 S → mg_m (mg_KM (L, xs) shO) (d + 820) 266 [.ref 148] G1 (rW9 G1 S' a)) :
    mg_wp (mg_KM (L, xs) shO) mc_law (d + 821) 746 [some (.ref 1000002), some (.ref 0), some (.ref 148), some (.ref 169), some (.ref 170), some (.int (Int32.ofNat i)), e6, e7, e8] [] G (lwQ (n + 1)) := by
  refine mg_goz [3435] 120 746 ms_law mlz_6 ?_
  repeat (first | refine ⟨_, mg_Fs rfl rfl, ?_⟩ | refine ⟨Or.inl rfl, ?_⟩ | refine ⟨Or.inr ⟨_, rfl⟩, ?_⟩ | refine ⟨fun _ => ?_, fun h => absurd h (by decide)⟩ | refine ⟨fun h => absurd h (by decide), fun _ => ?_⟩)
  refine mg_m_mono (hw) (by omega) ?_
  rintro o q G1 ⟨rfl, hq, hT1, hF1, hv⟩
  repeat (first | refine ⟨_, mg_Fs rfl rfl, ?_⟩ | refine ⟨Or.inl rfl, ?_⟩ | refine ⟨Or.inr ⟨_, rfl⟩, ?_⟩ | refine ⟨fun _ => ?_, fun h => absurd h (by decide)⟩ | refine ⟨fun h => absurd h (by decide), fun _ => ?_⟩)
  refine mg_m_mono (hu G1 (hr.fo hF1)) (by omega) ?_
  rintro o q2 G2 ⟨rfl, rfl, hT2, hF2, h10⟩
  repeat (first | refine ⟨_, mg_Fs rfl rfl, ?_⟩ | refine ⟨Or.inl rfl, ?_⟩ | refine ⟨Or.inr ⟨_, rfl⟩, ?_⟩ | refine ⟨fun _ => ?_, fun h => absurd h (by decide)⟩ | refine ⟨fun h => absurd h (by decide), fun _ => ?_⟩)
  refine mg_cv (r174 0 h10) (by omega) ?_
  repeat (first | refine ⟨_, mg_Fs rfl rfl, ?_⟩ | refine ⟨Or.inl rfl, ?_⟩ | refine ⟨Or.inr ⟨_, rfl⟩, ?_⟩ | refine ⟨fun _ => ?_, fun h => absurd h (by decide)⟩ | refine ⟨fun h => absurd h (by decide), fun _ => ?_⟩)
  refine ⟨fun _ => ?_, fun z => absurd rfl z⟩
  refine ⟨fun z => ?_, fun z => ?_⟩
  · exact hn.go (hT1.rF hF2) hT2 hq (fun o j G3 w => ⟨w.1, w.2⟩)
  · refine ⟨1, _, 0, mg_Al rfl (by decide), ⟨by decide, by decide⟩, by decide, ?_⟩
    refine ⟨fun z2 => ?_, fun z2 => ?_⟩
    · exact hn.go (hT1.rF hF2) hT2 hq (fun o j G3 w => ⟨w.1, w.2⟩)
    · exact (z2 ((lg_cmp_eq _ _).mpr ((congrFun (hF2 169 (Or.inr (by decide))).2.1 0).trans (hv z)))).elim
theorem lx_9 (d i n : Nat) (e6 e7 e8 : Option Value) (hL : L ≤ 3072) (hi : i + 6 ≤ L) (hc : cT G S) (hr : rT G S) (hn : lwN L xs (d + 821) i n) : mg_wp (mg_KM (L, xs) shO) mc_law (d + 821) 746 [some (.ref 1000002), some (.ref 0), some (.ref 148), some (.ref 169), some (.ref 170), some (.int (Int32.ofNat i)), e6, e7, e8] [] G (lwQ (n + 1)) :=
  lw_9 (S' := S) (a := (q266 S)) d i n e6 e7 e8 hL hi hr hn (w350 d  (mg_m_mono (c113 d hc ) (by omega) (fun _ _ _ h => h)) (g266_ )) (fun G1 h1 => u266 d h1 )
theorem lw_10 (d i n : Nat) (e6 e7 e8 : Option Value) (hL : L ≤ 3072) (hi : i + 6 ≤ L) (hr : rT G S) (hn : lwN L xs (d + 821) i n)
    (hw : mg_m (mg_KM (L, xs) shO) (d + 821) 351 [.ref 0, .int (xs (i + 1)), .int (xs (i + 2)), .ref 169] G (wP9 G S' a))
    (hu : ∀ G1, rT G1 S → mg_m (mg_KM (L, xs) shO) (d + 820) 267 [.ref 148, .int (xs (i + 1)), .int (xs (i + 2))] G1 (rW9 G1 S' a)) :
    mg_wp (mg_KM (L, xs) shO) mc_law (d + 821) 790 [some (.ref 1000002), some (.ref 0), some (.ref 148), some (.ref 169), some (.ref 170), some (.int (Int32.ofNat i)), e6, e7, e8] [] G (lwQ (n + 1)) := by
  refine mg_goz [3435] 120 790 ms_law mlz_7 ?_
  repeat (first | refine ⟨_, mg_Fs rfl rfl, ?_⟩ | refine ⟨Or.inl rfl, ?_⟩ | refine ⟨Or.inr ⟨_, rfl⟩, ?_⟩ | refine ⟨fun _ => ?_, fun h => absurd h (by decide)⟩ | refine ⟨fun h => absurd h (by decide), fun _ => ?_⟩)
  refine ⟨_, _, i + 1, mg_Ao (show mm_old L xs 1000002 = some (0, (L, .inl xs)) from rfl) (by decide), mg_ixE (mg_inc i) (by omega), by omega, ?_⟩
  repeat (first | refine ⟨_, mg_Fs rfl rfl, ?_⟩ | refine ⟨Or.inl rfl, ?_⟩ | refine ⟨Or.inr ⟨_, rfl⟩, ?_⟩ | refine ⟨fun _ => ?_, fun h => absurd h (by decide)⟩ | refine ⟨fun h => absurd h (by decide), fun _ => ?_⟩)
  refine ⟨_, _, i + 2, mg_Ao (show mm_old L xs 1000002 = some (0, (L, .inl xs)) from rfl) (by decide), mg_ixE ((Int32.ofNat_add i 2).symm) (by omega), by omega, ?_⟩
  repeat (first | refine ⟨_, mg_Fs rfl rfl, ?_⟩ | refine ⟨Or.inl rfl, ?_⟩ | refine ⟨Or.inr ⟨_, rfl⟩, ?_⟩ | refine ⟨fun _ => ?_, fun h => absurd h (by decide)⟩ | refine ⟨fun h => absurd h (by decide), fun _ => ?_⟩)
  refine mg_m_mono (hw) (by omega) ?_
  rintro o q G1 ⟨rfl, hq, hT1, hF1, hv⟩
  repeat (first | refine ⟨_, mg_Fs rfl rfl, ?_⟩ | refine ⟨Or.inl rfl, ?_⟩ | refine ⟨Or.inr ⟨_, rfl⟩, ?_⟩ | refine ⟨fun _ => ?_, fun h => absurd h (by decide)⟩ | refine ⟨fun h => absurd h (by decide), fun _ => ?_⟩)
  refine ⟨_, _, i + 1, mg_Ao (show mm_old L xs 1000002 = some (0, (L, .inl xs)) from rfl) (by decide), mg_ixE (mg_inc i) (by omega), by omega, ?_⟩
  repeat (first | refine ⟨_, mg_Fs rfl rfl, ?_⟩ | refine ⟨Or.inl rfl, ?_⟩ | refine ⟨Or.inr ⟨_, rfl⟩, ?_⟩ | refine ⟨fun _ => ?_, fun h => absurd h (by decide)⟩ | refine ⟨fun h => absurd h (by decide), fun _ => ?_⟩)
  refine ⟨_, _, i + 2, mg_Ao (show mm_old L xs 1000002 = some (0, (L, .inl xs)) from rfl) (by decide), mg_ixE ((Int32.ofNat_add i 2).symm) (by omega), by omega, ?_⟩
  repeat (first | refine ⟨_, mg_Fs rfl rfl, ?_⟩ | refine ⟨Or.inl rfl, ?_⟩ | refine ⟨Or.inr ⟨_, rfl⟩, ?_⟩ | refine ⟨fun _ => ?_, fun h => absurd h (by decide)⟩ | refine ⟨fun h => absurd h (by decide), fun _ => ?_⟩)
  refine mg_m_mono (hu G1 (hr.fo hF1)) (by omega) ?_
  rintro o q2 G2 ⟨rfl, rfl, hT2, hF2, h10⟩
  repeat (first | refine ⟨_, mg_Fs rfl rfl, ?_⟩ | refine ⟨Or.inl rfl, ?_⟩ | refine ⟨Or.inr ⟨_, rfl⟩, ?_⟩ | refine ⟨fun _ => ?_, fun h => absurd h (by decide)⟩ | refine ⟨fun h => absurd h (by decide), fun _ => ?_⟩)
  refine mg_cv (r174 0 h10) (by omega) ?_
  repeat (first | refine ⟨_, mg_Fs rfl rfl, ?_⟩ | refine ⟨Or.inl rfl, ?_⟩ | refine ⟨Or.inr ⟨_, rfl⟩, ?_⟩ | refine ⟨fun _ => ?_, fun h => absurd h (by decide)⟩ | refine ⟨fun h => absurd h (by decide), fun _ => ?_⟩)
  refine ⟨fun _ => ?_, fun z => absurd rfl z⟩
  refine ⟨fun z => ?_, fun z => ?_⟩
  · exact hn.go (hT1.rF hF2) hT2 hq (fun o j G3 w => ⟨w.1, w.2⟩)
  · refine ⟨1, _, 0, mg_Al rfl (by decide), ⟨by decide, by decide⟩, by decide, ?_⟩
    refine ⟨fun z2 => ?_, fun z2 => ?_⟩
    · exact hn.go (hT1.rF hF2) hT2 hq (fun o j G3 w => ⟨w.1, w.2⟩)
    · exact (z2 ((lg_cmp_eq _ _).mpr ((congrFun (hF2 169 (Or.inr (by decide))).2.1 0).trans (hv z)))).elim
theorem lx_10 (d i n : Nat) (e6 e7 e8 : Option Value) (hL : L ≤ 3072) (hi : i + 6 ≤ L) (hc : cT G S) (hr : rT G S) (hn : lwN L xs (d + 821) i n) : mg_wp (mg_KM (L, xs) shO) mc_law (d + 821) 790 [some (.ref 1000002), some (.ref 0), some (.ref 148), some (.ref 169), some (.ref 170), some (.int (Int32.ofNat i)), e6, e7, e8] [] G (lwQ (n + 1)) :=
  lw_10 (S' := S) (a := (q267 (sA S) (xs (i + 1)) (xs (i + 2)))) d i n e6 e7 e8 hL hi hr hn (w351 d (xs (i + 1)) (xs (i + 2)) (mg_m_mono (c114 d hc (xs (i + 1)) (xs (i + 2))) (by omega) (fun _ _ _ h => h)) (g267_ (xs (i + 1)) (xs (i + 2)))) (fun G1 h1 => u267 d h1 (xs (i + 1)) (xs (i + 2)))
theorem lw_11 (d i n : Nat) (e6 e7 e8 : Option Value) (hL : L ≤ 3072) (hi : i + 6 ≤ L) (hr : rT G S) (hn : lwN L xs (d + 821) i n)
    (hw : mg_m (mg_KM (L, xs) shO) (d + 821) 352 [.ref 0, .int (xs (i + 1)), .int (xs (i + 2)), .ref 169] G (wP9 G S' a))
    (hu : ∀ G1, rT G1 S → mg_m (mg_KM (L, xs) shO) (d + 820) 268 [.ref 148, .int (xs (i + 1)), .int (xs (i + 2))] G1 (rW9 G1 S' a)) :
    mg_wp (mg_KM (L, xs) shO) mc_law (d + 821) 858 [some (.ref 1000002), some (.ref 0), some (.ref 148), some (.ref 169), some (.ref 170), some (.int (Int32.ofNat i)), e6, e7, e8] [] G (lwQ (n + 1)) := by
  refine mg_goz [3435] 120 858 ms_law mlz_8 ?_
  repeat (first | refine ⟨_, mg_Fs rfl rfl, ?_⟩ | refine ⟨Or.inl rfl, ?_⟩ | refine ⟨Or.inr ⟨_, rfl⟩, ?_⟩ | refine ⟨fun _ => ?_, fun h => absurd h (by decide)⟩ | refine ⟨fun h => absurd h (by decide), fun _ => ?_⟩)
  refine ⟨_, _, i + 1, mg_Ao (show mm_old L xs 1000002 = some (0, (L, .inl xs)) from rfl) (by decide), mg_ixE (mg_inc i) (by omega), by omega, ?_⟩
  repeat (first | refine ⟨_, mg_Fs rfl rfl, ?_⟩ | refine ⟨Or.inl rfl, ?_⟩ | refine ⟨Or.inr ⟨_, rfl⟩, ?_⟩ | refine ⟨fun _ => ?_, fun h => absurd h (by decide)⟩ | refine ⟨fun h => absurd h (by decide), fun _ => ?_⟩)
  refine ⟨_, _, i + 2, mg_Ao (show mm_old L xs 1000002 = some (0, (L, .inl xs)) from rfl) (by decide), mg_ixE ((Int32.ofNat_add i 2).symm) (by omega), by omega, ?_⟩
  repeat (first | refine ⟨_, mg_Fs rfl rfl, ?_⟩ | refine ⟨Or.inl rfl, ?_⟩ | refine ⟨Or.inr ⟨_, rfl⟩, ?_⟩ | refine ⟨fun _ => ?_, fun h => absurd h (by decide)⟩ | refine ⟨fun h => absurd h (by decide), fun _ => ?_⟩)
  refine mg_m_mono (hw) (by omega) ?_
  rintro o q G1 ⟨rfl, hq, hT1, hF1, hv⟩
  repeat (first | refine ⟨_, mg_Fs rfl rfl, ?_⟩ | refine ⟨Or.inl rfl, ?_⟩ | refine ⟨Or.inr ⟨_, rfl⟩, ?_⟩ | refine ⟨fun _ => ?_, fun h => absurd h (by decide)⟩ | refine ⟨fun h => absurd h (by decide), fun _ => ?_⟩)
  refine ⟨_, _, i + 1, mg_Ao (show mm_old L xs 1000002 = some (0, (L, .inl xs)) from rfl) (by decide), mg_ixE (mg_inc i) (by omega), by omega, ?_⟩
  repeat (first | refine ⟨_, mg_Fs rfl rfl, ?_⟩ | refine ⟨Or.inl rfl, ?_⟩ | refine ⟨Or.inr ⟨_, rfl⟩, ?_⟩ | refine ⟨fun _ => ?_, fun h => absurd h (by decide)⟩ | refine ⟨fun h => absurd h (by decide), fun _ => ?_⟩)
  refine ⟨_, _, i + 2, mg_Ao (show mm_old L xs 1000002 = some (0, (L, .inl xs)) from rfl) (by decide), mg_ixE ((Int32.ofNat_add i 2).symm) (by omega), by omega, ?_⟩
  repeat (first | refine ⟨_, mg_Fs rfl rfl, ?_⟩ | refine ⟨Or.inl rfl, ?_⟩ | refine ⟨Or.inr ⟨_, rfl⟩, ?_⟩ | refine ⟨fun _ => ?_, fun h => absurd h (by decide)⟩ | refine ⟨fun h => absurd h (by decide), fun _ => ?_⟩)
  refine mg_m_mono (hu G1 (hr.fo hF1)) (by omega) ?_
  rintro o q2 G2 ⟨rfl, rfl, hT2, hF2, h10⟩
  repeat (first | refine ⟨_, mg_Fs rfl rfl, ?_⟩ | refine ⟨Or.inl rfl, ?_⟩ | refine ⟨Or.inr ⟨_, rfl⟩, ?_⟩ | refine ⟨fun _ => ?_, fun h => absurd h (by decide)⟩ | refine ⟨fun h => absurd h (by decide), fun _ => ?_⟩)
  refine mg_cv (r174 0 h10) (by omega) ?_
  repeat (first | refine ⟨_, mg_Fs rfl rfl, ?_⟩ | refine ⟨Or.inl rfl, ?_⟩ | refine ⟨Or.inr ⟨_, rfl⟩, ?_⟩ | refine ⟨fun _ => ?_, fun h => absurd h (by decide)⟩ | refine ⟨fun h => absurd h (by decide), fun _ => ?_⟩)
  refine ⟨fun _ => ?_, fun z => absurd rfl z⟩
  refine ⟨fun z => ?_, fun z => ?_⟩
  · exact hn.go (hT1.rF hF2) hT2 hq (fun o j G3 w => ⟨w.1, w.2⟩)
  · refine ⟨1, _, 0, mg_Al rfl (by decide), ⟨by decide, by decide⟩, by decide, ?_⟩
    refine ⟨fun z2 => ?_, fun z2 => ?_⟩
    · exact hn.go (hT1.rF hF2) hT2 hq (fun o j G3 w => ⟨w.1, w.2⟩)
    · exact (z2 ((lg_cmp_eq _ _).mpr ((congrFun (hF2 169 (Or.inr (by decide))).2.1 0).trans (hv z)))).elim
theorem lx_11 (d i n : Nat) (e6 e7 e8 : Option Value) (hL : L ≤ 3072) (hi : i + 6 ≤ L) (hc : cT G S) (hr : rT G S) (hn : lwN L xs (d + 821) i n) : mg_wp (mg_KM (L, xs) shO) mc_law (d + 821) 858 [some (.ref 1000002), some (.ref 0), some (.ref 148), some (.ref 169), some (.ref 170), some (.int (Int32.ofNat i)), e6, e7, e8] [] G (lwQ (n + 1)) :=
  lw_11 (S' := S) (a := (q268 (sA S) (xs (i + 1)) (xs (i + 2)))) d i n e6 e7 e8 hL hi hr hn (w352 d (xs (i + 1)) (xs (i + 2)) (mg_m_mono (c115 d hc (xs (i + 1)) (xs (i + 2))) (by omega) (fun _ _ _ h => h)) (g268_ (xs (i + 1)) (xs (i + 2)))) (fun G1 h1 => u268 d h1 (xs (i + 1)) (xs (i + 2)))
theorem lw_12 (d i n : Nat) (e6 e7 e8 : Option Value) (hL : L ≤ 3072) (hi : i + 6 ≤ L) (hr : rT G S) (hn : lwN L xs (d + 821) i n)
    (hw : mg_m (mg_KM (L, xs) shO) (d + 821) 353 [.ref 0, .int (xs (i + 1)), .int (xs (i + 2)), .ref 169] G (wP9 G S' a))
    (hu : ∀ G1, rT G1 S → mg_m (mg_KM (L, xs) shO) (d + 820) 270 [.ref 148, .int (xs (i + 1)), .int (xs (i + 2))] G1 (rW9 G1 S' a)) :
    mg_wp (mg_KM (L, xs) shO) mc_law (d + 821) 926 [some (.ref 1000002), some (.ref 0), some (.ref 148), some (.ref 169), some (.ref 170), some (.int (Int32.ofNat i)), e6, e7, e8] [] G (lwQ (n + 1)) := by
  refine mg_goz [3435] 120 926 ms_law mlz_9 ?_
  repeat (first | refine ⟨_, mg_Fs rfl rfl, ?_⟩ | refine ⟨Or.inl rfl, ?_⟩ | refine ⟨Or.inr ⟨_, rfl⟩, ?_⟩ | refine ⟨fun _ => ?_, fun h => absurd h (by decide)⟩ | refine ⟨fun h => absurd h (by decide), fun _ => ?_⟩)
  refine ⟨_, _, i + 1, mg_Ao (show mm_old L xs 1000002 = some (0, (L, .inl xs)) from rfl) (by decide), mg_ixE (mg_inc i) (by omega), by omega, ?_⟩
  repeat (first | refine ⟨_, mg_Fs rfl rfl, ?_⟩ | refine ⟨Or.inl rfl, ?_⟩ | refine ⟨Or.inr ⟨_, rfl⟩, ?_⟩ | refine ⟨fun _ => ?_, fun h => absurd h (by decide)⟩ | refine ⟨fun h => absurd h (by decide), fun _ => ?_⟩)
  refine ⟨_, _, i + 2, mg_Ao (show mm_old L xs 1000002 = some (0, (L, .inl xs)) from rfl) (by decide), mg_ixE ((Int32.ofNat_add i 2).symm) (by omega), by omega, ?_⟩
  repeat (first | refine ⟨_, mg_Fs rfl rfl, ?_⟩ | refine ⟨Or.inl rfl, ?_⟩ | refine ⟨Or.inr ⟨_, rfl⟩, ?_⟩ | refine ⟨fun _ => ?_, fun h => absurd h (by decide)⟩ | refine ⟨fun h => absurd h (by decide), fun _ => ?_⟩)
  refine mg_m_mono (hw) (by omega) ?_
  rintro o q G1 ⟨rfl, hq, hT1, hF1, hv⟩
  repeat (first | refine ⟨_, mg_Fs rfl rfl, ?_⟩ | refine ⟨Or.inl rfl, ?_⟩ | refine ⟨Or.inr ⟨_, rfl⟩, ?_⟩ | refine ⟨fun _ => ?_, fun h => absurd h (by decide)⟩ | refine ⟨fun h => absurd h (by decide), fun _ => ?_⟩)
  refine ⟨_, _, i + 1, mg_Ao (show mm_old L xs 1000002 = some (0, (L, .inl xs)) from rfl) (by decide), mg_ixE (mg_inc i) (by omega), by omega, ?_⟩
  repeat (first | refine ⟨_, mg_Fs rfl rfl, ?_⟩ | refine ⟨Or.inl rfl, ?_⟩ | refine ⟨Or.inr ⟨_, rfl⟩, ?_⟩ | refine ⟨fun _ => ?_, fun h => absurd h (by decide)⟩ | refine ⟨fun h => absurd h (by decide), fun _ => ?_⟩)
  refine ⟨_, _, i + 2, mg_Ao (show mm_old L xs 1000002 = some (0, (L, .inl xs)) from rfl) (by decide), mg_ixE ((Int32.ofNat_add i 2).symm) (by omega), by omega, ?_⟩
  repeat (first | refine ⟨_, mg_Fs rfl rfl, ?_⟩ | refine ⟨Or.inl rfl, ?_⟩ | refine ⟨Or.inr ⟨_, rfl⟩, ?_⟩ | refine ⟨fun _ => ?_, fun h => absurd h (by decide)⟩ | refine ⟨fun h => absurd h (by decide), fun _ => ?_⟩)
  refine mg_m_mono (hu G1 (hr.fo hF1)) (by omega) ?_
  rintro o q2 G2 ⟨rfl, rfl, hT2, hF2, h10⟩
  repeat (first | refine ⟨_, mg_Fs rfl rfl, ?_⟩ | refine ⟨Or.inl rfl, ?_⟩ | refine ⟨Or.inr ⟨_, rfl⟩, ?_⟩ | refine ⟨fun _ => ?_, fun h => absurd h (by decide)⟩ | refine ⟨fun h => absurd h (by decide), fun _ => ?_⟩)
  refine mg_cv (r174 0 h10) (by omega) ?_
  repeat (first | refine ⟨_, mg_Fs rfl rfl, ?_⟩ | refine ⟨Or.inl rfl, ?_⟩ | refine ⟨Or.inr ⟨_, rfl⟩, ?_⟩ | refine ⟨fun _ => ?_, fun h => absurd h (by decide)⟩ | refine ⟨fun h => absurd h (by decide), fun _ => ?_⟩)
  refine ⟨fun _ => ?_, fun z => absurd rfl z⟩
  refine ⟨fun z => ?_, fun z => ?_⟩
  · exact hn.go (hT1.rF hF2) hT2 hq (fun o j G3 w => ⟨w.1, w.2⟩)
  · refine ⟨1, _, 0, mg_Al rfl (by decide), ⟨by decide, by decide⟩, by decide, ?_⟩
    refine ⟨fun z2 => ?_, fun z2 => ?_⟩
    · exact hn.go (hT1.rF hF2) hT2 hq (fun o j G3 w => ⟨w.1, w.2⟩)
    · exact (z2 ((lg_cmp_eq _ _).mpr ((congrFun (hF2 169 (Or.inr (by decide))).2.1 0).trans (hv z)))).elim
theorem lx_12 (d i n : Nat) (e6 e7 e8 : Option Value) (hL : L ≤ 3072) (hi : i + 6 ≤ L) (hc : cT G S) (hr : rT G S) (hn : lwN L xs (d + 821) i n) : mg_wp (mg_KM (L, xs) shO) mc_law (d + 821) 926 [some (.ref 1000002), some (.ref 0), some (.ref 148), some (.ref 169), some (.ref 170), some (.int (Int32.ofNat i)), e6, e7, e8] [] G (lwQ (n + 1)) :=
  lw_12 (S' := S) (a := (q270 (sA S) (xs (i + 1)) (xs (i + 2)))) d i n e6 e7 e8 hL hi hr hn (w353 d (xs (i + 1)) (xs (i + 2)) (mg_m_mono (c116 d hc (xs (i + 1)) (xs (i + 2))) (by omega) (fun _ _ _ h => h)) (g270_ (xs (i + 1)) (xs (i + 2)))) (fun G1 h1 => u270 d h1 (xs (i + 1)) (xs (i + 2)))
theorem lw_13 (d i n : Nat) (e6 e7 e8 : Option Value) (hL : L ≤ 3072) (hi : i + 6 ≤ L) (hr : rT G S) (hn : lwN L xs (d + 821) i n)
    (hw : mg_m (mg_KM (L, xs) shO) (d + 821) 354 [.ref 0, .int (xs (i + 1)), .ref 169] G (wP9 G S' a))
    (hu : ∀ G1, rT G1 S → mg_m (mg_KM (L, xs) shO) (d + 820) 271 [.ref 148, .int (xs (i + 1))] G1 (rW9 G1 S' a)) :
    mg_wp (mg_KM (L, xs) shO) mc_law (d + 821) 994 [some (.ref 1000002), some (.ref 0), some (.ref 148), some (.ref 169), some (.ref 170), some (.int (Int32.ofNat i)), e6, e7, e8] [] G (lwQ (n + 1)) := by
  refine mg_goz [3435] 120 994 ms_law mlz_9 ?_
  repeat (first | refine ⟨_, mg_Fs rfl rfl, ?_⟩ | refine ⟨Or.inl rfl, ?_⟩ | refine ⟨Or.inr ⟨_, rfl⟩, ?_⟩ | refine ⟨fun _ => ?_, fun h => absurd h (by decide)⟩ | refine ⟨fun h => absurd h (by decide), fun _ => ?_⟩)
  refine ⟨_, _, i + 1, mg_Ao (show mm_old L xs 1000002 = some (0, (L, .inl xs)) from rfl) (by decide), mg_ixE (mg_inc i) (by omega), by omega, ?_⟩
  repeat (first | refine ⟨_, mg_Fs rfl rfl, ?_⟩ | refine ⟨Or.inl rfl, ?_⟩ | refine ⟨Or.inr ⟨_, rfl⟩, ?_⟩ | refine ⟨fun _ => ?_, fun h => absurd h (by decide)⟩ | refine ⟨fun h => absurd h (by decide), fun _ => ?_⟩)
  refine mg_m_mono (hw) (by omega) ?_
  rintro o q G1 ⟨rfl, hq, hT1, hF1, hv⟩
  repeat (first | refine ⟨_, mg_Fs rfl rfl, ?_⟩ | refine ⟨Or.inl rfl, ?_⟩ | refine ⟨Or.inr ⟨_, rfl⟩, ?_⟩ | refine ⟨fun _ => ?_, fun h => absurd h (by decide)⟩ | refine ⟨fun h => absurd h (by decide), fun _ => ?_⟩)
  refine ⟨_, _, i + 1, mg_Ao (show mm_old L xs 1000002 = some (0, (L, .inl xs)) from rfl) (by decide), mg_ixE (mg_inc i) (by omega), by omega, ?_⟩
  repeat (first | refine ⟨_, mg_Fs rfl rfl, ?_⟩ | refine ⟨Or.inl rfl, ?_⟩ | refine ⟨Or.inr ⟨_, rfl⟩, ?_⟩ | refine ⟨fun _ => ?_, fun h => absurd h (by decide)⟩ | refine ⟨fun h => absurd h (by decide), fun _ => ?_⟩)
  refine mg_m_mono (hu G1 (hr.fo hF1)) (by omega) ?_
  rintro o q2 G2 ⟨rfl, rfl, hT2, hF2, h10⟩
  repeat (first | refine ⟨_, mg_Fs rfl rfl, ?_⟩ | refine ⟨Or.inl rfl, ?_⟩ | refine ⟨Or.inr ⟨_, rfl⟩, ?_⟩ | refine ⟨fun _ => ?_, fun h => absurd h (by decide)⟩ | refine ⟨fun h => absurd h (by decide), fun _ => ?_⟩)
  refine mg_cv (r174 0 h10) (by omega) ?_
  repeat (first | refine ⟨_, mg_Fs rfl rfl, ?_⟩ | refine ⟨Or.inl rfl, ?_⟩ | refine ⟨Or.inr ⟨_, rfl⟩, ?_⟩ | refine ⟨fun _ => ?_, fun h => absurd h (by decide)⟩ | refine ⟨fun h => absurd h (by decide), fun _ => ?_⟩)
  refine ⟨fun _ => ?_, fun z => absurd rfl z⟩
  refine ⟨fun z => ?_, fun z => ?_⟩
  · exact hn.go (hT1.rF hF2) hT2 hq (fun o j G3 w => ⟨w.1, w.2⟩)
  · refine ⟨1, _, 0, mg_Al rfl (by decide), ⟨by decide, by decide⟩, by decide, ?_⟩
    refine ⟨fun z2 => ?_, fun z2 => ?_⟩
    · exact hn.go (hT1.rF hF2) hT2 hq (fun o j G3 w => ⟨w.1, w.2⟩)
    · exact (z2 ((lg_cmp_eq _ _).mpr ((congrFun (hF2 169 (Or.inr (by decide))).2.1 0).trans (hv z)))).elim
theorem lx_13 (d i n : Nat) (e6 e7 e8 : Option Value) (hL : L ≤ 3072) (hi : i + 6 ≤ L) (hc : cT G S) (hr : rT G S) (hn : lwN L xs (d + 821) i n) : mg_wp (mg_KM (L, xs) shO) mc_law (d + 821) 994 [some (.ref 1000002), some (.ref 0), some (.ref 148), some (.ref 169), some (.ref 170), some (.int (Int32.ofNat i)), e6, e7, e8] [] G (lwQ (n + 1)) :=
  lw_13 (S' := S) (a := (q271 (sA S) (xs (i + 1)))) d i n e6 e7 e8 hL hi hr hn (w354 d (xs (i + 1)) (mg_m_mono (c117 d hc (xs (i + 1))) (by omega) (fun _ _ _ h => h)) (g271_ (xs (i + 1)))) (fun G1 h1 => u271 d h1 (xs (i + 1)))
theorem lw_14 (d i n : Nat) (e6 e7 e8 : Option Value) (hL : L ≤ 3072) (hi : i + 6 ≤ L) (hr : rT G S) (hn : lwN L xs (d + 821) i n)
    (hw : mg_m (mg_KM (L, xs) shO) (d + 821) 355 [.ref 0, .int (xs (i + 1)), .int (xs (i + 2)), .ref 169] G (wP9 G S' a))
    (hu : ∀ G1, rT G1 S → mg_m (mg_KM (L, xs) shO) (d + 820) 272 [.ref 148, .int (xs (i + 1)), .int (xs (i + 2))] G1 (rW9 G1 S' a)) :
    mg_wp (mg_KM (L, xs) shO) mc_law (d + 821) 1050 [some (.ref 1000002), some (.ref 0), some (.ref 148), some (.ref 169), some (.ref 170), some (.int (Int32.ofNat i)), e6, e7, e8] [] G (lwQ (n + 1)) := by
  refine mg_goz [3435] 120 1050 ms_law mlz_10 ?_
  repeat (first | refine ⟨_, mg_Fs rfl rfl, ?_⟩ | refine ⟨Or.inl rfl, ?_⟩ | refine ⟨Or.inr ⟨_, rfl⟩, ?_⟩ | refine ⟨fun _ => ?_, fun h => absurd h (by decide)⟩ | refine ⟨fun h => absurd h (by decide), fun _ => ?_⟩)
  refine ⟨_, _, i + 1, mg_Ao (show mm_old L xs 1000002 = some (0, (L, .inl xs)) from rfl) (by decide), mg_ixE (mg_inc i) (by omega), by omega, ?_⟩
  repeat (first | refine ⟨_, mg_Fs rfl rfl, ?_⟩ | refine ⟨Or.inl rfl, ?_⟩ | refine ⟨Or.inr ⟨_, rfl⟩, ?_⟩ | refine ⟨fun _ => ?_, fun h => absurd h (by decide)⟩ | refine ⟨fun h => absurd h (by decide), fun _ => ?_⟩)
  refine ⟨_, _, i + 2, mg_Ao (show mm_old L xs 1000002 = some (0, (L, .inl xs)) from rfl) (by decide), mg_ixE ((Int32.ofNat_add i 2).symm) (by omega), by omega, ?_⟩
  repeat (first | refine ⟨_, mg_Fs rfl rfl, ?_⟩ | refine ⟨Or.inl rfl, ?_⟩ | refine ⟨Or.inr ⟨_, rfl⟩, ?_⟩ | refine ⟨fun _ => ?_, fun h => absurd h (by decide)⟩ | refine ⟨fun h => absurd h (by decide), fun _ => ?_⟩)
  refine mg_m_mono (hw) (by omega) ?_
  rintro o q G1 ⟨rfl, hq, hT1, hF1, hv⟩
  repeat (first | refine ⟨_, mg_Fs rfl rfl, ?_⟩ | refine ⟨Or.inl rfl, ?_⟩ | refine ⟨Or.inr ⟨_, rfl⟩, ?_⟩ | refine ⟨fun _ => ?_, fun h => absurd h (by decide)⟩ | refine ⟨fun h => absurd h (by decide), fun _ => ?_⟩)
  refine ⟨_, _, i + 1, mg_Ao (show mm_old L xs 1000002 = some (0, (L, .inl xs)) from rfl) (by decide), mg_ixE (mg_inc i) (by omega), by omega, ?_⟩
  repeat (first | refine ⟨_, mg_Fs rfl rfl, ?_⟩ | refine ⟨Or.inl rfl, ?_⟩ | refine ⟨Or.inr ⟨_, rfl⟩, ?_⟩ | refine ⟨fun _ => ?_, fun h => absurd h (by decide)⟩ | refine ⟨fun h => absurd h (by decide), fun _ => ?_⟩)
  refine ⟨_, _, i + 2, mg_Ao (show mm_old L xs 1000002 = some (0, (L, .inl xs)) from rfl) (by decide), mg_ixE ((Int32.ofNat_add i 2).symm) (by omega), by omega, ?_⟩
  repeat (first | refine ⟨_, mg_Fs rfl rfl, ?_⟩ | refine ⟨Or.inl rfl, ?_⟩ | refine ⟨Or.inr ⟨_, rfl⟩, ?_⟩ | refine ⟨fun _ => ?_, fun h => absurd h (by decide)⟩ | refine ⟨fun h => absurd h (by decide), fun _ => ?_⟩)
  refine mg_m_mono (hu G1 (hr.fo hF1)) (by omega) ?_
  rintro o q2 G2 ⟨rfl, rfl, hT2, hF2, h10⟩
  repeat (first | refine ⟨_, mg_Fs rfl rfl, ?_⟩ | refine ⟨Or.inl rfl, ?_⟩ | refine ⟨Or.inr ⟨_, rfl⟩, ?_⟩ | refine ⟨fun _ => ?_, fun h => absurd h (by decide)⟩ | refine ⟨fun h => absurd h (by decide), fun _ => ?_⟩)
  refine mg_cv (r174 0 h10) (by omega) ?_
  repeat (first | refine ⟨_, mg_Fs rfl rfl, ?_⟩ | refine ⟨Or.inl rfl, ?_⟩ | refine ⟨Or.inr ⟨_, rfl⟩, ?_⟩ | refine ⟨fun _ => ?_, fun h => absurd h (by decide)⟩ | refine ⟨fun h => absurd h (by decide), fun _ => ?_⟩)
  refine ⟨fun _ => ?_, fun z => absurd rfl z⟩
  refine ⟨fun z => ?_, fun z => ?_⟩
  · exact hn.go (hT1.rF hF2) hT2 hq (fun o j G3 w => ⟨w.1, w.2⟩)
  · refine ⟨1, _, 0, mg_Al rfl (by decide), ⟨by decide, by decide⟩, by decide, ?_⟩
    refine ⟨fun z2 => ?_, fun z2 => ?_⟩
    · exact hn.go (hT1.rF hF2) hT2 hq (fun o j G3 w => ⟨w.1, w.2⟩)
    · exact (z2 ((lg_cmp_eq _ _).mpr ((congrFun (hF2 169 (Or.inr (by decide))).2.1 0).trans (hv z)))).elim
theorem lx_14 (d i n : Nat) (e6 e7 e8 : Option Value) (hL : L ≤ 3072) (hi : i + 6 ≤ L) (hc : cT G S) (hr : rT G S) (hn : lwN L xs (d + 821) i n) : mg_wp (mg_KM (L, xs) shO) mc_law (d + 821) 1050 [some (.ref 1000002), some (.ref 0), some (.ref 148), some (.ref 169), some (.ref 170), some (.int (Int32.ofNat i)), e6, e7, e8] [] G (lwQ (n + 1)) :=
  lw_14 (S' := S) (a := (q272 (sA S) (xs (i + 1)) (xs (i + 2)))) d i n e6 e7 e8 hL hi hr hn (w355 d (xs (i + 1)) (xs (i + 2)) (mg_m_mono (c118 d hc (xs (i + 1)) (xs (i + 2))) (by omega) (fun _ _ _ h => h)) (g272_ (xs (i + 1)) (xs (i + 2)))) (fun G1 h1 => u272 d h1 (xs (i + 1)) (xs (i + 2)))
theorem lw_15 (d i n : Nat) (e6 e7 e8 : Option Value) (hL : L ≤ 3072) (hi : i + 6 ≤ L) (hr : rT G S) (hn : lwN L xs (d + 821) i n)
    (hw : mg_m (mg_KM (L, xs) shO) (d + 821) 356 [.ref 0, .int (xs (i + 1)), .int (xs (i + 2)), .ref 169] G (wP9 G S' a))
    (hu : ∀ G1, rT G1 S → mg_m (mg_KM (L, xs) shO) (d + 820) 273 [.ref 148, .int (xs (i + 1)), .int (xs (i + 2))] G1 (rW9 G1 S' a)) :
    mg_wp (mg_KM (L, xs) shO) mc_law (d + 821) 1118 [some (.ref 1000002), some (.ref 0), some (.ref 148), some (.ref 169), some (.ref 170), some (.int (Int32.ofNat i)), e6, e7, e8] [] G (lwQ (n + 1)) := by
  refine mg_goz [3435] 120 1118 ms_law mlz_11 ?_
  repeat (first | refine ⟨_, mg_Fs rfl rfl, ?_⟩ | refine ⟨Or.inl rfl, ?_⟩ | refine ⟨Or.inr ⟨_, rfl⟩, ?_⟩ | refine ⟨fun _ => ?_, fun h => absurd h (by decide)⟩ | refine ⟨fun h => absurd h (by decide), fun _ => ?_⟩)
  refine ⟨_, _, i + 1, mg_Ao (show mm_old L xs 1000002 = some (0, (L, .inl xs)) from rfl) (by decide), mg_ixE (mg_inc i) (by omega), by omega, ?_⟩
  repeat (first | refine ⟨_, mg_Fs rfl rfl, ?_⟩ | refine ⟨Or.inl rfl, ?_⟩ | refine ⟨Or.inr ⟨_, rfl⟩, ?_⟩ | refine ⟨fun _ => ?_, fun h => absurd h (by decide)⟩ | refine ⟨fun h => absurd h (by decide), fun _ => ?_⟩)
  refine ⟨_, _, i + 2, mg_Ao (show mm_old L xs 1000002 = some (0, (L, .inl xs)) from rfl) (by decide), mg_ixE ((Int32.ofNat_add i 2).symm) (by omega), by omega, ?_⟩
  repeat (first | refine ⟨_, mg_Fs rfl rfl, ?_⟩ | refine ⟨Or.inl rfl, ?_⟩ | refine ⟨Or.inr ⟨_, rfl⟩, ?_⟩ | refine ⟨fun _ => ?_, fun h => absurd h (by decide)⟩ | refine ⟨fun h => absurd h (by decide), fun _ => ?_⟩)
  refine mg_m_mono (hw) (by omega) ?_
  rintro o q G1 ⟨rfl, hq, hT1, hF1, hv⟩
  repeat (first | refine ⟨_, mg_Fs rfl rfl, ?_⟩ | refine ⟨Or.inl rfl, ?_⟩ | refine ⟨Or.inr ⟨_, rfl⟩, ?_⟩ | refine ⟨fun _ => ?_, fun h => absurd h (by decide)⟩ | refine ⟨fun h => absurd h (by decide), fun _ => ?_⟩)
  refine ⟨_, _, i + 1, mg_Ao (show mm_old L xs 1000002 = some (0, (L, .inl xs)) from rfl) (by decide), mg_ixE (mg_inc i) (by omega), by omega, ?_⟩
  repeat (first | refine ⟨_, mg_Fs rfl rfl, ?_⟩ | refine ⟨Or.inl rfl, ?_⟩ | refine ⟨Or.inr ⟨_, rfl⟩, ?_⟩ | refine ⟨fun _ => ?_, fun h => absurd h (by decide)⟩ | refine ⟨fun h => absurd h (by decide), fun _ => ?_⟩)
  refine ⟨_, _, i + 2, mg_Ao (show mm_old L xs 1000002 = some (0, (L, .inl xs)) from rfl) (by decide), mg_ixE ((Int32.ofNat_add i 2).symm) (by omega), by omega, ?_⟩
  repeat (first | refine ⟨_, mg_Fs rfl rfl, ?_⟩ | refine ⟨Or.inl rfl, ?_⟩ | refine ⟨Or.inr ⟨_, rfl⟩, ?_⟩ | refine ⟨fun _ => ?_, fun h => absurd h (by decide)⟩ | refine ⟨fun h => absurd h (by decide), fun _ => ?_⟩)
  refine mg_m_mono (hu G1 (hr.fo hF1)) (by omega) ?_
  rintro o q2 G2 ⟨rfl, rfl, hT2, hF2, h10⟩
  repeat (first | refine ⟨_, mg_Fs rfl rfl, ?_⟩ | refine ⟨Or.inl rfl, ?_⟩ | refine ⟨Or.inr ⟨_, rfl⟩, ?_⟩ | refine ⟨fun _ => ?_, fun h => absurd h (by decide)⟩ | refine ⟨fun h => absurd h (by decide), fun _ => ?_⟩)
  refine mg_cv (r174 0 h10) (by omega) ?_
  repeat (first | refine ⟨_, mg_Fs rfl rfl, ?_⟩ | refine ⟨Or.inl rfl, ?_⟩ | refine ⟨Or.inr ⟨_, rfl⟩, ?_⟩ | refine ⟨fun _ => ?_, fun h => absurd h (by decide)⟩ | refine ⟨fun h => absurd h (by decide), fun _ => ?_⟩)
  refine ⟨fun _ => ?_, fun z => absurd rfl z⟩
  refine ⟨fun z => ?_, fun z => ?_⟩
  · exact hn.go (hT1.rF hF2) hT2 hq (fun o j G3 w => ⟨w.1, w.2⟩)
  · refine ⟨1, _, 0, mg_Al rfl (by decide), ⟨by decide, by decide⟩, by decide, ?_⟩
    refine ⟨fun z2 => ?_, fun z2 => ?_⟩
    · exact hn.go (hT1.rF hF2) hT2 hq (fun o j G3 w => ⟨w.1, w.2⟩)
    · exact (z2 ((lg_cmp_eq _ _).mpr ((congrFun (hF2 169 (Or.inr (by decide))).2.1 0).trans (hv z)))).elim
theorem lx_15 (d i n : Nat) (e6 e7 e8 : Option Value) (hL : L ≤ 3072) (hi : i + 6 ≤ L) (hc : cT G S) (hr : rT G S) (hn : lwN L xs (d + 821) i n) : mg_wp (mg_KM (L, xs) shO) mc_law (d + 821) 1118 [some (.ref 1000002), some (.ref 0), some (.ref 148), some (.ref 169), some (.ref 170), some (.int (Int32.ofNat i)), e6, e7, e8] [] G (lwQ (n + 1)) :=
  lw_15 (S' := S) (a := (q273 (sA S) (xs (i + 1)) (xs (i + 2)))) d i n e6 e7 e8 hL hi hr hn (w356 d (xs (i + 1)) (xs (i + 2)) (mg_m_mono (c119 d hc (xs (i + 1)) (xs (i + 2))) (by omega) (fun _ _ _ h => h)) (g273_ (xs (i + 1)) (xs (i + 2)))) (fun G1 h1 => u273 d h1 (xs (i + 1)) (xs (i + 2)))
theorem lw_16 (d i n : Nat) (e6 e7 e8 : Option Value) (hL : L ≤ 3072) (hi : i + 6 ≤ L) (hr : rT G S) (hn : lwN L xs (d + 821) i n)
    (hw : mg_m (mg_KM (L, xs) shO) (d + 821) 357 [.ref 0, .int (xs (i + 1)), .int (xs (i + 2)), .ref 169] G (wP9 G S' a))
    (hu : ∀ G1, rT G1 S → mg_m (mg_KM (L, xs) shO) (d + 820) 275 [.ref 148, .int (xs (i + 1)), .int (xs (i + 2))] G1 (rW9 G1 S' a)) :
    mg_wp (mg_KM (L, xs) shO) mc_law (d + 821) 1186 [some (.ref 1000002), some (.ref 0), some (.ref 148), some (.ref 169), some (.ref 170), some (.int (Int32.ofNat i)), e6, e7, e8] [] G (lwQ (n + 1)) := by
  refine mg_goz [3435] 120 1186 ms_law mlz_12 ?_
  repeat (first | refine ⟨_, mg_Fs rfl rfl, ?_⟩ | refine ⟨Or.inl rfl, ?_⟩ | refine ⟨Or.inr ⟨_, rfl⟩, ?_⟩ | refine ⟨fun _ => ?_, fun h => absurd h (by decide)⟩ | refine ⟨fun h => absurd h (by decide), fun _ => ?_⟩)
  refine ⟨_, _, i + 1, mg_Ao (show mm_old L xs 1000002 = some (0, (L, .inl xs)) from rfl) (by decide), mg_ixE (mg_inc i) (by omega), by omega, ?_⟩
  repeat (first | refine ⟨_, mg_Fs rfl rfl, ?_⟩ | refine ⟨Or.inl rfl, ?_⟩ | refine ⟨Or.inr ⟨_, rfl⟩, ?_⟩ | refine ⟨fun _ => ?_, fun h => absurd h (by decide)⟩ | refine ⟨fun h => absurd h (by decide), fun _ => ?_⟩)
  refine ⟨_, _, i + 2, mg_Ao (show mm_old L xs 1000002 = some (0, (L, .inl xs)) from rfl) (by decide), mg_ixE ((Int32.ofNat_add i 2).symm) (by omega), by omega, ?_⟩
  repeat (first | refine ⟨_, mg_Fs rfl rfl, ?_⟩ | refine ⟨Or.inl rfl, ?_⟩ | refine ⟨Or.inr ⟨_, rfl⟩, ?_⟩ | refine ⟨fun _ => ?_, fun h => absurd h (by decide)⟩ | refine ⟨fun h => absurd h (by decide), fun _ => ?_⟩)
  refine mg_m_mono (hw) (by omega) ?_
  rintro o q G1 ⟨rfl, hq, hT1, hF1, hv⟩
  repeat (first | refine ⟨_, mg_Fs rfl rfl, ?_⟩ | refine ⟨Or.inl rfl, ?_⟩ | refine ⟨Or.inr ⟨_, rfl⟩, ?_⟩ | refine ⟨fun _ => ?_, fun h => absurd h (by decide)⟩ | refine ⟨fun h => absurd h (by decide), fun _ => ?_⟩)
  refine ⟨_, _, i + 1, mg_Ao (show mm_old L xs 1000002 = some (0, (L, .inl xs)) from rfl) (by decide), mg_ixE (mg_inc i) (by omega), by omega, ?_⟩
  repeat (first | refine ⟨_, mg_Fs rfl rfl, ?_⟩ | refine ⟨Or.inl rfl, ?_⟩ | refine ⟨Or.inr ⟨_, rfl⟩, ?_⟩ | refine ⟨fun _ => ?_, fun h => absurd h (by decide)⟩ | refine ⟨fun h => absurd h (by decide), fun _ => ?_⟩)
  refine ⟨_, _, i + 2, mg_Ao (show mm_old L xs 1000002 = some (0, (L, .inl xs)) from rfl) (by decide), mg_ixE ((Int32.ofNat_add i 2).symm) (by omega), by omega, ?_⟩
  repeat (first | refine ⟨_, mg_Fs rfl rfl, ?_⟩ | refine ⟨Or.inl rfl, ?_⟩ | refine ⟨Or.inr ⟨_, rfl⟩, ?_⟩ | refine ⟨fun _ => ?_, fun h => absurd h (by decide)⟩ | refine ⟨fun h => absurd h (by decide), fun _ => ?_⟩)
  refine mg_m_mono (hu G1 (hr.fo hF1)) (by omega) ?_
  rintro o q2 G2 ⟨rfl, rfl, hT2, hF2, h10⟩
  repeat (first | refine ⟨_, mg_Fs rfl rfl, ?_⟩ | refine ⟨Or.inl rfl, ?_⟩ | refine ⟨Or.inr ⟨_, rfl⟩, ?_⟩ | refine ⟨fun _ => ?_, fun h => absurd h (by decide)⟩ | refine ⟨fun h => absurd h (by decide), fun _ => ?_⟩)
  refine mg_cv (r174 0 h10) (by omega) ?_
  repeat (first | refine ⟨_, mg_Fs rfl rfl, ?_⟩ | refine ⟨Or.inl rfl, ?_⟩ | refine ⟨Or.inr ⟨_, rfl⟩, ?_⟩ | refine ⟨fun _ => ?_, fun h => absurd h (by decide)⟩ | refine ⟨fun h => absurd h (by decide), fun _ => ?_⟩)
  refine ⟨fun _ => ?_, fun z => absurd rfl z⟩
  refine ⟨fun z => ?_, fun z => ?_⟩
  · exact hn.go (hT1.rF hF2) hT2 hq (fun o j G3 w => ⟨w.1, w.2⟩)
  · refine ⟨1, _, 0, mg_Al rfl (by decide), ⟨by decide, by decide⟩, by decide, ?_⟩
    refine ⟨fun z2 => ?_, fun z2 => ?_⟩
    · exact hn.go (hT1.rF hF2) hT2 hq (fun o j G3 w => ⟨w.1, w.2⟩)
    · exact (z2 ((lg_cmp_eq _ _).mpr ((congrFun (hF2 169 (Or.inr (by decide))).2.1 0).trans (hv z)))).elim
theorem lx_16 (d i n : Nat) (e6 e7 e8 : Option Value) (hL : L ≤ 3072) (hi : i + 6 ≤ L) (hc : cT G S) (hr : rT G S) (hn : lwN L xs (d + 821) i n) : mg_wp (mg_KM (L, xs) shO) mc_law (d + 821) 1186 [some (.ref 1000002), some (.ref 0), some (.ref 148), some (.ref 169), some (.ref 170), some (.int (Int32.ofNat i)), e6, e7, e8] [] G (lwQ (n + 1)) :=
  lw_16 (S' := S) (a := (q275 (sA S) (xs (i + 1)) (xs (i + 2)))) d i n e6 e7 e8 hL hi hr hn (w357 d (xs (i + 1)) (xs (i + 2)) (mg_m_mono (c120 d hc (xs (i + 1)) (xs (i + 2))) (by omega) (fun _ _ _ h => h)) (g275_ (xs (i + 1)) (xs (i + 2)))) (fun G1 h1 => u275 d h1 (xs (i + 1)) (xs (i + 2)))
theorem lw_17 (d i n : Nat) (e6 e7 e8 : Option Value) (hL : L ≤ 3072) (hi : i + 6 ≤ L) (hr : rT G S) (hn : lwN L xs (d + 821) i n)
    (hw : mg_m (mg_KM (L, xs) shO) (d + 821) 358 [.ref 0, .int (xs (i + 1)), .int (xs (i + 2)), .ref 169] G (wP9 G S' a))
    (hu : ∀ G1, rT G1 S → mg_m (mg_KM (L, xs) shO) (d + 820) 277 [.ref 148, .int (xs (i + 1)), .int (xs (i + 2))] G1 (rW9 G1 S' a)) :
    mg_wp (mg_KM (L, xs) shO) mc_law (d + 821) 1254 [some (.ref 1000002), some (.ref 0), some (.ref 148), some (.ref 169), some (.ref 170), some (.int (Int32.ofNat i)), e6, e7, e8] [] G (lwQ (n + 1)) := by
  refine mg_goz [3435] 120 1254 ms_law mlz_13 ?_
  repeat (first | refine ⟨_, mg_Fs rfl rfl, ?_⟩ | refine ⟨Or.inl rfl, ?_⟩ | refine ⟨Or.inr ⟨_, rfl⟩, ?_⟩ | refine ⟨fun _ => ?_, fun h => absurd h (by decide)⟩ | refine ⟨fun h => absurd h (by decide), fun _ => ?_⟩)
  refine ⟨_, _, i + 1, mg_Ao (show mm_old L xs 1000002 = some (0, (L, .inl xs)) from rfl) (by decide), mg_ixE (mg_inc i) (by omega), by omega, ?_⟩
  repeat (first | refine ⟨_, mg_Fs rfl rfl, ?_⟩ | refine ⟨Or.inl rfl, ?_⟩ | refine ⟨Or.inr ⟨_, rfl⟩, ?_⟩ | refine ⟨fun _ => ?_, fun h => absurd h (by decide)⟩ | refine ⟨fun h => absurd h (by decide), fun _ => ?_⟩)
  refine ⟨_, _, i + 2, mg_Ao (show mm_old L xs 1000002 = some (0, (L, .inl xs)) from rfl) (by decide), mg_ixE ((Int32.ofNat_add i 2).symm) (by omega), by omega, ?_⟩
  repeat (first | refine ⟨_, mg_Fs rfl rfl, ?_⟩ | refine ⟨Or.inl rfl, ?_⟩ | refine ⟨Or.inr ⟨_, rfl⟩, ?_⟩ | refine ⟨fun _ => ?_, fun h => absurd h (by decide)⟩ | refine ⟨fun h => absurd h (by decide), fun _ => ?_⟩)
  refine mg_m_mono (hw) (by omega) ?_
  rintro o q G1 ⟨rfl, hq, hT1, hF1, hv⟩
  repeat (first | refine ⟨_, mg_Fs rfl rfl, ?_⟩ | refine ⟨Or.inl rfl, ?_⟩ | refine ⟨Or.inr ⟨_, rfl⟩, ?_⟩ | refine ⟨fun _ => ?_, fun h => absurd h (by decide)⟩ | refine ⟨fun h => absurd h (by decide), fun _ => ?_⟩)
  refine ⟨_, _, i + 1, mg_Ao (show mm_old L xs 1000002 = some (0, (L, .inl xs)) from rfl) (by decide), mg_ixE (mg_inc i) (by omega), by omega, ?_⟩
  repeat (first | refine ⟨_, mg_Fs rfl rfl, ?_⟩ | refine ⟨Or.inl rfl, ?_⟩ | refine ⟨Or.inr ⟨_, rfl⟩, ?_⟩ | refine ⟨fun _ => ?_, fun h => absurd h (by decide)⟩ | refine ⟨fun h => absurd h (by decide), fun _ => ?_⟩)
  refine ⟨_, _, i + 2, mg_Ao (show mm_old L xs 1000002 = some (0, (L, .inl xs)) from rfl) (by decide), mg_ixE ((Int32.ofNat_add i 2).symm) (by omega), by omega, ?_⟩
  repeat (first | refine ⟨_, mg_Fs rfl rfl, ?_⟩ | refine ⟨Or.inl rfl, ?_⟩ | refine ⟨Or.inr ⟨_, rfl⟩, ?_⟩ | refine ⟨fun _ => ?_, fun h => absurd h (by decide)⟩ | refine ⟨fun h => absurd h (by decide), fun _ => ?_⟩)
  refine mg_m_mono (hu G1 (hr.fo hF1)) (by omega) ?_
  rintro o q2 G2 ⟨rfl, rfl, hT2, hF2, h10⟩
  repeat (first | refine ⟨_, mg_Fs rfl rfl, ?_⟩ | refine ⟨Or.inl rfl, ?_⟩ | refine ⟨Or.inr ⟨_, rfl⟩, ?_⟩ | refine ⟨fun _ => ?_, fun h => absurd h (by decide)⟩ | refine ⟨fun h => absurd h (by decide), fun _ => ?_⟩)
  refine mg_cv (r174 0 h10) (by omega) ?_
  repeat (first | refine ⟨_, mg_Fs rfl rfl, ?_⟩ | refine ⟨Or.inl rfl, ?_⟩ | refine ⟨Or.inr ⟨_, rfl⟩, ?_⟩ | refine ⟨fun _ => ?_, fun h => absurd h (by decide)⟩ | refine ⟨fun h => absurd h (by decide), fun _ => ?_⟩)
  refine ⟨fun _ => ?_, fun z => absurd rfl z⟩
  refine ⟨fun z => ?_, fun z => ?_⟩
  · exact hn.go (hT1.rF hF2) hT2 hq (fun o j G3 w => ⟨w.1, w.2⟩)
  · refine ⟨1, _, 0, mg_Al rfl (by decide), ⟨by decide, by decide⟩, by decide, ?_⟩
    refine ⟨fun z2 => ?_, fun z2 => ?_⟩
    · exact hn.go (hT1.rF hF2) hT2 hq (fun o j G3 w => ⟨w.1, w.2⟩)
    · exact (z2 ((lg_cmp_eq _ _).mpr ((congrFun (hF2 169 (Or.inr (by decide))).2.1 0).trans (hv z)))).elim
theorem lx_17 (d i n : Nat) (e6 e7 e8 : Option Value) (hL : L ≤ 3072) (hi : i + 6 ≤ L) (hc : cT G S) (hr : rT G S) (hn : lwN L xs (d + 821) i n) : mg_wp (mg_KM (L, xs) shO) mc_law (d + 821) 1254 [some (.ref 1000002), some (.ref 0), some (.ref 148), some (.ref 169), some (.ref 170), some (.int (Int32.ofNat i)), e6, e7, e8] [] G (lwQ (n + 1)) :=
  lw_17 (S' := S) (a := (q277 (sA S) (xs (i + 1)) (xs (i + 2)))) d i n e6 e7 e8 hL hi hr hn (w358 d (xs (i + 1)) (xs (i + 2)) (mg_m_mono (c121 d hc (xs (i + 1)) (xs (i + 2))) (by omega) (fun _ _ _ h => h)) (g277_ (xs (i + 1)) (xs (i + 2)))) (fun G1 h1 => u277 d h1 (xs (i + 1)) (xs (i + 2)))
end LW
