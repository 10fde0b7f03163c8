section KC
variable {scr : Nat × (Nat → Int32)} {t : List mg_S} {G : mg_G} {S : a_S}
theorem c109 (d : Nat) (hT : cT G S) (w : Int32) : mg_m (mg_KC scr t) (d + 20) 109 [.ref 0, .int w] G (cA G (ex1 xA) S (q260 (sA S) (sU S).length w)) := by
  have h8 := hT.v8
  have h12 := hT.f12
  have hW := hT.2.1
  unfold q260
  cases hw : vi w 7 with
  | none =>
    have hn : w.toInt < 0 ∨ (6 : Int) < w.toInt := by
      rcases vi_n hw (by decide) with q | q
      · exact Or.inl (by have := Int32.lt_iff_toInt_lt.mp q; rwa [show (0 : Int32).toInt = 0 from by decide] at this)
      · exact Or.inr (by have := Int32.le_iff_toInt_le.mp q; rw [show (Int32.ofNat 7).toInt = 7 from by decide] at this; omega)
    refine mg_me [] 60 my_109 ms_109 (Nat.le_of_ble_eq_true rfl) ?_
    refine ⟨by decide, fun _ => ⟨Nat.le_of_ble_eq_true rfl, cA_x hT (by decide) rfl⟩, fun h => ?_, fun h => ?_, fun h => ?_, fun h => ?_, fun h => ?_, fun h => ?_, fun h => ?_, trivial⟩ <;> (exfalso; omega)
  | some k =>
    obtain ⟨rfl, hk⟩ := vi_s hw
    rcases (show k = 0 ∨ k = 1 ∨ k = 2 ∨ k = 3 ∨ k = 4 ∨ k = 5 ∨ k = 6 by omega) with rfl | rfl | rfl | rfl | rfl | rfl | rfl
    · refine mg_me [] 60 my_109 ms_109 (Nat.le_of_ble_eq_true rfl) ?_
      refine ⟨by decide, fun h => absurd h (by decide), fun _ => ?_, fun h => absurd h (by decide), fun h => absurd h (by decide), fun h => absurd h (by decide), fun h => absurd h (by decide), fun h => absurd h (by decide), fun h => absurd h (by decide), trivial⟩
      exact ⟨_, mg_Fs rfl rfl, _, mg_Fe hT.1.2.2.1 rfl rfl, Or.inl rfl, cA_v hT (mg_fr.rf _ _) rfl⟩
    · refine mg_me [] 60 my_109 ms_109 (Nat.le_of_ble_eq_true rfl) ?_
      refine ⟨by decide, fun h => absurd h (by decide), fun h => absurd h (by decide), fun _ => ?_, fun h => absurd h (by decide), fun h => absurd h (by decide), fun h => absurd h (by decide), fun h => absurd h (by decide), fun h => absurd h (by decide), trivial⟩
      exact ⟨_, mg_Fs rfl rfl, _, mg_Fe hT.1.2.1 rfl rfl, Or.inl rfl, cA_v hT (mg_fr.rf _ _) rfl⟩
    · refine mg_me [] 60 my_109 ms_109 (Nat.le_of_ble_eq_true rfl) ?_
      refine ⟨by decide, fun h => absurd h (by decide), fun h => absurd h (by decide), fun h => absurd h (by decide), fun _ => ?_, fun h => absurd h (by decide), fun h => absurd h (by decide), fun h => absurd h (by decide), fun h => absurd h (by decide), trivial⟩
      repeat (first | refine ⟨_, mg_Fs rfl rfl, ?_⟩ | refine ⟨Or.inl rfl, ?_⟩ | refine ⟨Or.inr ⟨_, rfl⟩, ?_⟩ | refine ⟨fun _ => ?_, fun h => absurd h (by decide)⟩ | refine ⟨fun h => absurd h (by decide), fun _ => ?_⟩)
      refine mg_m_mono (c165 d hT) (by omega) ?_
      rintro o q G1 ⟨rfl, rfl, hT1, hD, hF⟩
      repeat (first | refine ⟨_, mg_Fs rfl rfl, ?_⟩ | refine ⟨Or.inl rfl, ?_⟩ | refine ⟨Or.inr ⟨_, rfl⟩, ?_⟩ | refine ⟨fun _ => ?_, fun h => absurd h (by decide)⟩ | refine ⟨fun h => absurd h (by decide), fun _ => ?_⟩)
      refine mg_cv (c7 d (kc_d1 (scr := scr) (t := t)) (m := (aN (sA S)).length) hD.1.1) (by omega) ?_
      exact ⟨Or.inl rfl, cA_v hT1 (fr0 hF) rfl⟩
    · refine mg_me [] 60 my_109 ms_109 (Nat.le_of_ble_eq_true rfl) ?_
      refine ⟨by decide, fun h => absurd h (by decide), fun h => absurd h (by decide), fun h => absurd h (by decide), fun h => absurd h (by decide), fun _ => ?_, fun h => absurd h (by decide), fun h => absurd h (by decide), fun h => absurd h (by decide), trivial⟩
      repeat (first | refine ⟨_, mg_Fs rfl rfl, ?_⟩ | refine ⟨Or.inl rfl, ?_⟩ | refine ⟨Or.inr ⟨_, rfl⟩, ?_⟩ | refine ⟨fun _ => ?_, fun h => absurd h (by decide)⟩ | refine ⟨fun h => absurd h (by decide), fun _ => ?_⟩)
      refine mg_m_mono (c165 d hT) (by omega) ?_
      rintro o q G1 ⟨rfl, rfl, hT1, hD, hF⟩
      repeat (first | refine ⟨_, mg_Fs rfl rfl, ?_⟩ | refine ⟨Or.inl rfl, ?_⟩ | refine ⟨Or.inr ⟨_, rfl⟩, ?_⟩ | refine ⟨fun _ => ?_, fun h => absurd h (by decide)⟩ | refine ⟨fun h => absurd h (by decide), fun _ => ?_⟩)
      refine mg_cv (c9 (kc_d1 (scr := scr) (t := t)) hD.1 hD.2.1 d) (by omega) ?_
      exact ⟨Or.inl rfl, cA_v hT1 (fr0 hF) (a_used hW hD.2.1)⟩
    · refine mg_me [] 60 my_109 ms_109 (Nat.le_of_ble_eq_true rfl) ?_
      refine ⟨by decide, fun h => absurd h (by decide), fun h => absurd h (by decide), fun h => absurd h (by decide), fun h => absurd h (by decide), fun h => absurd h (by decide), fun _ => ?_, fun h => absurd h (by decide), fun h => absurd h (by decide), trivial⟩
      repeat (first | refine ⟨_, mg_Fs rfl rfl, ?_⟩ | refine ⟨Or.inl rfl, ?_⟩ | refine ⟨Or.inr ⟨_, rfl⟩, ?_⟩ | refine ⟨fun _ => ?_, fun h => absurd h (by decide)⟩ | refine ⟨fun h => absurd h (by decide), fun _ => ?_⟩)
      refine mg_cv (c166 d hT) (by omega) ?_
      exact ⟨Or.inl rfl, cA_v hT (mg_fr.rf _ _) rfl⟩
    · refine mg_me [] 60 my_109 ms_109 (Nat.le_of_ble_eq_true rfl) ?_
      refine ⟨by decide, fun h => absurd h (by decide), fun h => absurd h (by decide), fun h => absurd h (by decide), fun h => absurd h (by decide), fun h => absurd h (by decide), fun h => absurd h (by decide), fun _ => ?_, fun h => absurd h (by decide), trivial⟩
      repeat (first | refine ⟨_, mg_Fs rfl rfl, ?_⟩ | refine ⟨Or.inl rfl, ?_⟩ | refine ⟨Or.inr ⟨_, rfl⟩, ?_⟩ | refine ⟨fun _ => ?_, fun h => absurd h (by decide)⟩ | refine ⟨fun h => absurd h (by decide), fun _ => ?_⟩)
      refine mg_cv (c168 d hT) (by omega) ?_
      exact ⟨Or.inl rfl, cA_v hT (mg_fr.rf _ _) rfl⟩
    · obtain ⟨nx, -, -, hu, -⟩ := hT.2.2.1
      refine mg_me [] 60 my_109 ms_109 (Nat.le_of_ble_eq_true rfl) ?_
      refine ⟨by decide, fun h => absurd h (by decide), fun h => absurd h (by decide), fun h => absurd h (by decide), fun h => absurd h (by decide), fun h => absurd h (by decide), fun h => absurd h (by decide), fun h => absurd h (by decide), fun _ => ?_, trivial⟩
      exact ⟨_, mg_Fs rfl rfl, _, mg_Fe hu rfl rfl, Or.inl rfl, cA_v hT (mg_fr.rf _ _) rfl⟩
theorem c110 (d : Nat) (hT : cT G S) (v w : Int32) : mg_m (mg_KC scr t) (d + 20) 110 [.ref 0, .int v, .int w] G (cA G (ex2 xI xA) S (q261 (sA S) v w)) := by
  have h8 := hT.v8
  have h12 := hT.f12
  have hW := hT.2.1
  unfold q261
  cases hv : vi v (aV (sA S)) with
  | none =>
    rw [qV_x hv]
    refine mg_me [] 90 my_110 ms_110 (Nat.le_of_ble_eq_true rfl) ?_
    repeat (first | refine ⟨_, mg_Fs rfl rfl, ?_⟩ | refine ⟨Or.inl rfl, ?_⟩ | refine ⟨Or.inr ⟨_, rfl⟩, ?_⟩ | refine ⟨fun _ => ?_, fun h => absurd h (by decide)⟩ | refine ⟨fun h => absurd h (by decide), fun _ => ?_⟩)
    refine mg_cx (c157x d hT hv) (by omega) ?_
    exact cA_x hT (by decide) rfl
  | some i =>
    obtain ⟨rfl, hi⟩ := vi_s hv
    rw [qV_y hv]
    cases hw : vi w 6 with
    | none =>
      have hn : w.toInt < 0 ∨ (5 : Int) < w.toInt := by
        rcases vi_n hw (by decide) with q | q
        · exact Or.inl (by have := Int32.lt_iff_toInt_lt.mp q; rwa [show (0 : Int32).toInt = 0 from by decide] at this)
        · exact Or.inr (by have := Int32.le_iff_toInt_le.mp q; rw [show (Int32.ofNat 6).toInt = 6 from by decide] at this; omega)
      refine mg_me [] 90 my_110 ms_110 (Nat.le_of_ble_eq_true rfl) ?_
      repeat (first | refine ⟨_, mg_Fs rfl rfl, ?_⟩ | refine ⟨Or.inl rfl, ?_⟩ | refine ⟨Or.inr ⟨_, rfl⟩, ?_⟩ | refine ⟨fun _ => ?_, fun h => absurd h (by decide)⟩ | refine ⟨fun h => absurd h (by decide), fun _ => ?_⟩)
      refine mg_cn (c157y d hT hv) (by omega) ?_
      refine ⟨by decide, fun _ => ⟨Nat.le_of_ble_eq_true rfl, cA_x hT (by decide) rfl⟩, fun h => ?_, fun h => ?_, fun h => ?_, fun h => ?_, fun h => ?_, fun h => ?_, trivial⟩ <;> (exfalso; omega)
    | some k =>
      obtain ⟨rfl, hk⟩ := vi_s hw
      rcases (show k = 0 ∨ k = 1 ∨ k = 2 ∨ k = 3 ∨ k = 4 ∨ k = 5 by omega) with rfl | rfl | rfl | rfl | rfl | rfl
      · refine mg_me [] 90 my_110 ms_110 (Nat.le_of_ble_eq_true rfl) ?_
        repeat (first | refine ⟨_, mg_Fs rfl rfl, ?_⟩ | refine ⟨Or.inl rfl, ?_⟩ | refine ⟨Or.inr ⟨_, rfl⟩, ?_⟩ | refine ⟨fun _ => ?_, fun h => absurd h (by decide)⟩ | refine ⟨fun h => absurd h (by decide), fun _ => ?_⟩)
        refine mg_cn (c157y d hT hv) (by omega) ?_
        refine ⟨by decide, fun h => absurd h (by decide), fun _ => ?_, fun h => absurd h (by decide), fun h => absurd h (by decide), fun h => absurd h (by decide), fun h => absurd h (by decide), fun h => absurd h (by decide), trivial⟩
        repeat (first | refine ⟨_, mg_Fs rfl rfl, ?_⟩ | refine ⟨Or.inl rfl, ?_⟩ | refine ⟨Or.inr ⟨_, rfl⟩, ?_⟩ | refine ⟨fun _ => ?_, fun h => absurd h (by decide)⟩ | refine ⟨fun h => absurd h (by decide), fun _ => ?_⟩)
        refine mg_cv (c70A d kc_s1 hT.1 hW hi) (by omega) ?_
        exact ⟨Or.inl rfl, cA_v hT (mg_fr.rf _ _) rfl⟩
      · refine mg_me [] 90 my_110 ms_110 (Nat.le_of_ble_eq_true rfl) ?_
        repeat (first | refine ⟨_, mg_Fs rfl rfl, ?_⟩ | refine ⟨Or.inl rfl, ?_⟩ | refine ⟨Or.inr ⟨_, rfl⟩, ?_⟩ | refine ⟨fun _ => ?_, fun h => absurd h (by decide)⟩ | refine ⟨fun h => absurd h (by decide), fun _ => ?_⟩)
        refine mg_cn (c157y d hT hv) (by omega) ?_
        refine ⟨by decide, fun h => absurd h (by decide), fun h => absurd h (by decide), fun _ => ?_, fun h => absurd h (by decide), fun h => absurd h (by decide), fun h => absurd h (by decide), fun h => absurd h (by decide), trivial⟩
        repeat (first | refine ⟨_, mg_Fs rfl rfl, ?_⟩ | refine ⟨Or.inl rfl, ?_⟩ | refine ⟨Or.inr ⟨_, rfl⟩, ?_⟩ | refine ⟨fun _ => ?_, fun h => absurd h (by decide)⟩ | refine ⟨fun h => absurd h (by decide), fun _ => ?_⟩)
        exact ⟨_, _, i, mg_Ai rfl (by decide), mg_ixN (by omega), by omega, Or.inl rfl, cA_v hT (mg_fr.rf _ _) (hT.1.2.2.2.2.2.2.2.1 i hi)⟩
      · refine mg_me [] 90 my_110 ms_110 (Nat.le_of_ble_eq_true rfl) ?_
        repeat (first | refine ⟨_, mg_Fs rfl rfl, ?_⟩ | refine ⟨Or.inl rfl, ?_⟩ | refine ⟨Or.inr ⟨_, rfl⟩, ?_⟩ | refine ⟨fun _ => ?_, fun h => absurd h (by decide)⟩ | refine ⟨fun h => absurd h (by decide), fun _ => ?_⟩)
        refine mg_cn (c157y d hT hv) (by omega) ?_
        refine ⟨by decide, fun h => absurd h (by decide), fun h => absurd h (by decide), fun h => absurd h (by decide), fun _ => ?_, fun h => absurd h (by decide), fun h => absurd h (by decide), fun h => absurd h (by decide), trivial⟩
        repeat (first | refine ⟨_, mg_Fs rfl rfl, ?_⟩ | refine ⟨Or.inl rfl, ?_⟩ | refine ⟨Or.inr ⟨_, rfl⟩, ?_⟩ | refine ⟨fun _ => ?_, fun h => absurd h (by decide)⟩ | refine ⟨fun h => absurd h (by decide), fun _ => ?_⟩)
        exact ⟨_, _, i, mg_Ai rfl (by decide), mg_ixN (by omega), by omega, Or.inl rfl, cA_v hT (mg_fr.rf _ _) (hT.1.2.2.2.2.2.2.2.2 i hi)⟩
      · refine mg_me [] 90 my_110 ms_110 (Nat.le_of_ble_eq_true rfl) ?_
        repeat (first | refine ⟨_, mg_Fs rfl rfl, ?_⟩ | refine ⟨Or.inl rfl, ?_⟩ | refine ⟨Or.inr ⟨_, rfl⟩, ?_⟩ | refine ⟨fun _ => ?_, fun h => absurd h (by decide)⟩ | refine ⟨fun h => absurd h (by decide), fun _ => ?_⟩)
        refine mg_cn (c157y d hT hv) (by omega) ?_
        refine ⟨by decide, fun h => absurd h (by decide), fun h => absurd h (by decide), fun h => absurd h (by decide), fun h => absurd h (by decide), fun _ => ?_, fun h => absurd h (by decide), fun h => absurd h (by decide), trivial⟩
        repeat (first | refine ⟨_, mg_Fs rfl rfl, ?_⟩ | refine ⟨Or.inl rfl, ?_⟩ | refine ⟨Or.inr ⟨_, rfl⟩, ?_⟩ | refine ⟨fun _ => ?_, fun h => absurd h (by decide)⟩ | refine ⟨fun h => absurd h (by decide), fun _ => ?_⟩)
        refine mg_m_mono (c165 d hT) (by omega) ?_
        rintro o q G1 ⟨rfl, rfl, hT1, hD, hF⟩
        have k1 := c8 (kc_d1 (scr := scr) (t := t)) hD.1 hD.2.1 d (Int32.ofNat (a_lvl (sA S) i))
        rw [a_ts_lv hW hD.2.1 hi] at k1
        repeat (first | refine ⟨_, mg_Fs rfl rfl, ?_⟩ | refine ⟨Or.inl rfl, ?_⟩ | refine ⟨Or.inr ⟨_, rfl⟩, ?_⟩ | refine ⟨fun _ => ?_, fun h => absurd h (by decide)⟩ | refine ⟨fun h => absurd h (by decide), fun _ => ?_⟩)
        refine mg_cv (c70A d kc_s1 hT1.1 hW hi) (by omega) ?_
        repeat (first | refine ⟨_, mg_Fs rfl rfl, ?_⟩ | refine ⟨Or.inl rfl, ?_⟩ | refine ⟨Or.inr ⟨_, rfl⟩, ?_⟩ | refine ⟨fun _ => ?_, fun h => absurd h (by decide)⟩ | refine ⟨fun h => absurd h (by decide), fun _ => ?_⟩)
        refine mg_cv (k1) (by omega) ?_
        exact ⟨Or.inl rfl, cA_v hT1 (fr0 hF) rfl⟩
      · refine mg_me [] 90 my_110 ms_110 (Nat.le_of_ble_eq_true rfl) ?_
        repeat (first | refine ⟨_, mg_Fs rfl rfl, ?_⟩ | refine ⟨Or.inl rfl, ?_⟩ | refine ⟨Or.inr ⟨_, rfl⟩, ?_⟩ | refine ⟨fun _ => ?_, fun h => absurd h (by decide)⟩ | refine ⟨fun h => absurd h (by decide), fun _ => ?_⟩)
        refine mg_cn (c157y d hT hv) (by omega) ?_
        refine ⟨by decide, fun h => absurd h (by decide), fun h => absurd h (by decide), fun h => absurd h (by decide), fun h => absurd h (by decide), fun h => absurd h (by decide), fun _ => ?_, fun h => absurd h (by decide), trivial⟩
        repeat (first | refine ⟨_, mg_Fs rfl rfl, ?_⟩ | refine ⟨Or.inl rfl, ?_⟩ | refine ⟨Or.inr ⟨_, rfl⟩, ?_⟩ | refine ⟨fun _ => ?_, fun h => absurd h (by decide)⟩ | refine ⟨fun h => absurd h (by decide), fun _ => ?_⟩)
        refine mg_cv (c169 d hT hi) (by omega) ?_
        exact ⟨Or.inl rfl, cA_v hT (mg_fr.rf _ _) rfl⟩
      · refine mg_me [] 90 my_110 ms_110 (Nat.le_of_ble_eq_true rfl) ?_
        repeat (first | refine ⟨_, mg_Fs rfl rfl, ?_⟩ | refine ⟨Or.inl rfl, ?_⟩ | refine ⟨Or.inr ⟨_, rfl⟩, ?_⟩ | refine ⟨fun _ => ?_, fun h => absurd h (by decide)⟩ | refine ⟨fun h => absurd h (by decide), fun _ => ?_⟩)
        refine mg_cn (c157y d hT hv) (by omega) ?_
        refine ⟨by decide, fun h => absurd h (by decide), fun h => absurd h (by decide), fun h => absurd h (by decide), fun h => absurd h (by decide), fun h => absurd h (by decide), fun h => absurd h (by decide), fun _ => ?_, trivial⟩
        repeat (first | refine ⟨_, mg_Fs rfl rfl, ?_⟩ | refine ⟨Or.inl rfl, ?_⟩ | refine ⟨Or.inr ⟨_, rfl⟩, ?_⟩ | refine ⟨fun _ => ?_, fun h => absurd h (by decide)⟩ | refine ⟨fun h => absurd h (by decide), fun _ => ?_⟩)
        refine ⟨_, _, i, mg_Al rfl (by decide), mg_ixN (by omega), by omega, ?_⟩
        rw [show G.2.1 34 i = a_pk (aVN (sA S) i) from hT.1.2.2.2.2.2.1 i hi]
        repeat (first | refine ⟨_, mg_Fs rfl rfl, ?_⟩ | refine ⟨Or.inl rfl, ?_⟩ | refine ⟨Or.inr ⟨_, rfl⟩, ?_⟩ | refine ⟨fun _ => ?_, fun h => absurd h (by decide)⟩ | refine ⟨fun h => absurd h (by decide), fun _ => ?_⟩)
        refine mg_cv (c172 d (hW.2.2.2.2.1 i hi).1) (by omega) ?_
        exact ⟨Or.inl rfl, cA_v hT (mg_fr.rf _ _) rfl⟩
theorem c112 (d : Nat) (hT : cT G S) (f w : Int32) : mg_m (mg_KC scr t) (d + 20) 112 [.ref 0, .int f, .int w] G (cA G (ex2 xI xA) S (q264 (sA S) f w)) := by
  have h8 := hT.v8
  have h12 := hT.f12
  have hW := hT.2.1
  unfold q264
  cases hf : vi f (aF (sA S)) with
  | none =>
    rw [qF_x hf]
    refine mg_me [] 90 my_112 ms_112 (Nat.le_of_ble_eq_true rfl) ?_
    repeat (first | refine ⟨_, mg_Fs rfl rfl, ?_⟩ | refine ⟨Or.inl rfl, ?_⟩ | refine ⟨Or.inr ⟨_, rfl⟩, ?_⟩ | refine ⟨fun _ => ?_, fun h => absurd h (by decide)⟩ | refine ⟨fun h => absurd h (by decide), fun _ => ?_⟩)
    refine mg_cx (c156x d hT hf) (by omega) ?_
    exact cA_x hT (by decide) rfl
  | some i =>
    obtain ⟨rfl, hi⟩ := vi_s hf
    rw [qF_y hf]
    cases hw : vi w 5 with
    | none =>
      have hn : w.toInt < 0 ∨ (4 : Int) < w.toInt := by
        rcases vi_n hw (by decide) with q | q
        · exact Or.inl (by have := Int32.lt_iff_toInt_lt.mp q; rwa [show (0 : Int32).toInt = 0 from by decide] at this)
        · exact Or.inr (by have := Int32.le_iff_toInt_le.mp q; rw [show (Int32.ofNat 5).toInt = 5 from by decide] at this; omega)
      refine mg_me [] 90 my_112 ms_112 (Nat.le_of_ble_eq_true rfl) ?_
      repeat (first | refine ⟨_, mg_Fs rfl rfl, ?_⟩ | refine ⟨Or.inl rfl, ?_⟩ | refine ⟨Or.inr ⟨_, rfl⟩, ?_⟩ | refine ⟨fun _ => ?_, fun h => absurd h (by decide)⟩ | refine ⟨fun h => absurd h (by decide), fun _ => ?_⟩)
      refine mg_cn (c156y d hT hf) (by omega) ?_
      refine ⟨by decide, fun _ => ⟨Nat.le_of_ble_eq_true rfl, cA_x hT (by decide) rfl⟩, fun h => ?_, fun h => ?_, fun h => ?_, fun h => ?_, fun h => ?_, trivial⟩ <;> (exfalso; omega)
    | some k =>
      obtain ⟨rfl, hk⟩ := vi_s hw
      rcases (show k = 0 ∨ k = 1 ∨ k = 2 ∨ k = 3 ∨ k = 4 by omega) with rfl | rfl | rfl | rfl | rfl
      · refine mg_me [] 90 my_112 ms_112 (Nat.le_of_ble_eq_true rfl) ?_
        repeat (first | refine ⟨_, mg_Fs rfl rfl, ?_⟩ | refine ⟨Or.inl rfl, ?_⟩ | refine ⟨Or.inr ⟨_, rfl⟩, ?_⟩ | refine ⟨fun _ => ?_, fun h => absurd h (by decide)⟩ | refine ⟨fun h => absurd h (by decide), fun _ => ?_⟩)
        refine mg_cn (c156y d hT hf) (by omega) ?_
        refine ⟨by decide, fun h => absurd h (by decide), fun _ => ?_, fun h => absurd h (by decide), fun h => absurd h (by decide), fun h => absurd h (by decide), fun h => absurd h (by decide), trivial⟩
        repeat (first | refine ⟨_, mg_Fs rfl rfl, ?_⟩ | refine ⟨Or.inl rfl, ?_⟩ | refine ⟨Or.inr ⟨_, rfl⟩, ?_⟩ | refine ⟨fun _ => ?_, fun h => absurd h (by decide)⟩ | refine ⟨fun h => absurd h (by decide), fun _ => ?_⟩)
        refine mg_m_mono (c165 d hT) (by omega) ?_
        rintro o q G1 ⟨rfl, rfl, hT1, hD, hF⟩
        repeat (first | refine ⟨_, mg_Fs rfl rfl, ?_⟩ | refine ⟨Or.inl rfl, ?_⟩ | refine ⟨Or.inr ⟨_, rfl⟩, ?_⟩ | refine ⟨fun _ => ?_, fun h => absurd h (by decide)⟩ | refine ⟨fun h => absurd h (by decide), fun _ => ?_⟩)
        exact ⟨_, _, i, mg_Ai rfl (by decide), mg_ixN (by omega), by omega, Or.inl rfl, cA_v hT1 (fr0 hF) (hD.2.2.2.1 i hi).1⟩
      · refine mg_me [] 90 my_112 ms_112 (Nat.le_of_ble_eq_true rfl) ?_
        repeat (first | refine ⟨_, mg_Fs rfl rfl, ?_⟩ | refine ⟨Or.inl rfl, ?_⟩ | refine ⟨Or.inr ⟨_, rfl⟩, ?_⟩ | refine ⟨fun _ => ?_, fun h => absurd h (by decide)⟩ | refine ⟨fun h => absurd h (by decide), fun _ => ?_⟩)
        refine mg_cn (c156y d hT hf) (by omega) ?_
        refine ⟨by decide, fun h => absurd h (by decide), fun h => absurd h (by decide), fun _ => ?_, fun h => absurd h (by decide), fun h => absurd h (by decide), fun h => absurd h (by decide), trivial⟩
        repeat (first | refine ⟨_, mg_Fs rfl rfl, ?_⟩ | refine ⟨Or.inl rfl, ?_⟩ | refine ⟨Or.inr ⟨_, rfl⟩, ?_⟩ | refine ⟨fun _ => ?_, fun h => absurd h (by decide)⟩ | refine ⟨fun h => absurd h (by decide), fun _ => ?_⟩)
        refine mg_m_mono (c165 d hT) (by omega) ?_
        rintro o q G1 ⟨rfl, rfl, hT1, hD, hF⟩
        have k1 := c10 (kc_d1 (scr := scr) (t := t)) hD.1 hD.2.1 d (a_bq i)
        rw [← mg_bq i (by omega)] at k1
        repeat (first | refine ⟨_, mg_Fs rfl rfl, ?_⟩ | refine ⟨Or.inl rfl, ?_⟩ | refine ⟨Or.inr ⟨_, rfl⟩, ?_⟩ | refine ⟨fun _ => ?_, fun h => absurd h (by decide)⟩ | refine ⟨fun h => absurd h (by decide), fun _ => ?_⟩)
        refine mg_cv (k1) (by omega) ?_
        refine ⟨Or.inl rfl, cA_v hT1 (fr0 hF) ?_⟩
        rw [mg_bq i (by omega)]
        refine a_sum_c fun k hk => ?_
        have hb := hD.2.2.2.2.2.1 (k + 2) (by omega) i (by omega)
        rw [decide_eq_true hi, Bool.true_and] at hb
        rw [← hb]
        by_cases e : G1.1 (122 + 6) (k + 2) &&& a_bq i = a_bq i
        · rw [if_pos e, (a_bt_1 _ i (by omega)).mp e]
          rfl
        · rw [if_neg e, Bool.eq_false_iff.mpr (fun q => e ((a_bt_1 _ i (by omega)).mpr q))]
          rfl
      · refine mg_me [] 90 my_112 ms_112 (Nat.le_of_ble_eq_true rfl) ?_
        repeat (first | refine ⟨_, mg_Fs rfl rfl, ?_⟩ | refine ⟨Or.inl rfl, ?_⟩ | refine ⟨Or.inr ⟨_, rfl⟩, ?_⟩ | refine ⟨fun _ => ?_, fun h => absurd h (by decide)⟩ | refine ⟨fun h => absurd h (by decide), fun _ => ?_⟩)
        refine mg_cn (c156y d hT hf) (by omega) ?_
        refine ⟨by decide, fun h => absurd h (by decide), fun h => absurd h (by decide), fun h => absurd h (by decide), fun _ => ?_, fun h => absurd h (by decide), fun h => absurd h (by decide), trivial⟩
        repeat (first | refine ⟨_, mg_Fs rfl rfl, ?_⟩ | refine ⟨Or.inl rfl, ?_⟩ | refine ⟨Or.inr ⟨_, rfl⟩, ?_⟩ | refine ⟨fun _ => ?_, fun h => absurd h (by decide)⟩ | refine ⟨fun h => absurd h (by decide), fun _ => ?_⟩)
        refine mg_cv (c72 (K := mg_KC scr t) d i kc_s1 (show aV (sA S) < 9 by omega) hT.1.2.2.1 (show i < 14 by omega) (hT.rw hi)) (by omega) ?_
        exact ⟨Or.inl rfl, cA_v hT (mg_fr.rf _ _) rfl⟩
      · refine mg_me [] 90 my_112 ms_112 (Nat.le_of_ble_eq_true rfl) ?_
        repeat (first | refine ⟨_, mg_Fs rfl rfl, ?_⟩ | refine ⟨Or.inl rfl, ?_⟩ | refine ⟨Or.inr ⟨_, rfl⟩, ?_⟩ | refine ⟨fun _ => ?_, fun h => absurd h (by decide)⟩ | refine ⟨fun h => absurd h (by decide), fun _ => ?_⟩)
        refine mg_cn (c156y d hT hf) (by omega) ?_
        refine ⟨by decide, fun h => absurd h (by decide), fun h => absurd h (by decide), fun h => absurd h (by decide), fun h => absurd h (by decide), fun _ => ?_, fun h => absurd h (by decide), trivial⟩
        repeat (first | refine ⟨_, mg_Fs rfl rfl, ?_⟩ | refine ⟨Or.inl rfl, ?_⟩ | refine ⟨Or.inr ⟨_, rfl⟩, ?_⟩ | refine ⟨fun _ => ?_, fun h => absurd h (by decide)⟩ | refine ⟨fun h => absurd h (by decide), fun _ => ?_⟩)
        refine mg_cv (c170 d hT hi) (by omega) ?_
        repeat (first | refine ⟨_, mg_Fs rfl rfl, ?_⟩ | refine ⟨Or.inl rfl, ?_⟩ | refine ⟨Or.inr ⟨_, rfl⟩, ?_⟩ | refine ⟨fun _ => ?_, fun h => absurd h (by decide)⟩ | refine ⟨fun h => absurd h (by decide), fun _ => ?_⟩)
        refine mg_cv (r330 d _ _) (by omega) ?_
        exact ⟨Or.inl rfl, cA_v hT (mg_fr.rf _ _) rfl⟩
      · refine mg_me [] 90 my_112 ms_112 (Nat.le_of_ble_eq_true rfl) ?_
        repeat (first | refine ⟨_, mg_Fs rfl rfl, ?_⟩ | refine ⟨Or.inl rfl, ?_⟩ | refine ⟨Or.inr ⟨_, rfl⟩, ?_⟩ | refine ⟨fun _ => ?_, fun h => absurd h (by decide)⟩ | refine ⟨fun h => absurd h (by decide), fun _ => ?_⟩)
        refine mg_cn (c156y d hT hf) (by omega) ?_
        refine ⟨by decide, fun h => absurd h (by decide), fun h => absurd h (by decide), fun h => absurd h (by decide), fun h => absurd h (by decide), fun h => absurd h (by decide), fun _ => ?_, trivial⟩
        repeat (first | refine ⟨_, mg_Fs rfl rfl, ?_⟩ | refine ⟨Or.inl rfl, ?_⟩ | refine ⟨Or.inr ⟨_, rfl⟩, ?_⟩ | refine ⟨fun _ => ?_, fun h => absurd h (by decide)⟩ | refine ⟨fun h => absurd h (by decide), fun _ => ?_⟩)
        refine ⟨_, _, i, mg_Al rfl (by decide), mg_ixN (by omega), by omega, ?_⟩
        rw [show G.2.1 33 i = a_pk (aFN (sA S) i) from hT.1.2.2.2.2.1 i hi]
        repeat (first | refine ⟨_, mg_Fs rfl rfl, ?_⟩ | refine ⟨Or.inl rfl, ?_⟩ | refine ⟨Or.inr ⟨_, rfl⟩, ?_⟩ | refine ⟨fun _ => ?_, fun h => absurd h (by decide)⟩ | refine ⟨fun h => absurd h (by decide), fun _ => ?_⟩)
        refine mg_cv (c172 d (hW.2.2.2.2.2.1 i hi)) (by omega) ?_
        exact ⟨Or.inl rfl, cA_v hT (mg_fr.rf _ _) rfl⟩
theorem c114 (d : Nat) (hT : cT G S) (k w : Int32) : mg_m (mg_KC scr t) (d + 20) 114 [.ref 0, .int k, .int w] G (cA G (ex2 xI xA) S (q267 (sA S) k w)) := by
  have h8 := hT.v8
  have h12 := hT.f12
  have hW := hT.2.1
  have hN : gN (aG (sA S)) ≤ 628 := hW.gN
  unfold q267
  cases hk : vi k (gN (aG (sA S))) with
  | none =>
    have hn := vi_n hk (by omega)
    refine mg_me [] 90 my_114 ms_114 (Nat.le_of_ble_eq_true rfl) ?_
    refine ⟨fun _ => ⟨Nat.le_of_ble_eq_true rfl, cA_x hT (by decide) rfl⟩, fun h0 => ?_⟩
    repeat (first | refine ⟨_, mg_Fs rfl rfl, ?_⟩ | refine ⟨Or.inl rfl, ?_⟩ | refine ⟨Or.inr ⟨_, rfl⟩, ?_⟩ | refine ⟨fun _ => ?_, fun h => absurd h (by decide)⟩ | refine ⟨fun h => absurd h (by decide), fun _ => ?_⟩)
    refine mg_m_mono (c165 d hT) (by omega) ?_
    rintro o q G1 ⟨rfl, rfl, hT1, hD, hF⟩
    refine ⟨_, mg_Fe hD.1.1 rfl rfl, fun h => (hn.elim (fun q => absurd q (Int32.not_lt.mpr h0)) (fun q => absurd h (Int32.not_lt.mpr q))), fun _ => ⟨Nat.le_of_ble_eq_true rfl, Or.inr ⟨(show (1 : Int32) ≠ 0 by decide), rfl⟩, by decide, hT1, fr0 hF⟩⟩
  | some i =>
    obtain ⟨rfl, hi⟩ := vi_s hk
    have pre : ∀ {Q : mg_Q}, (∀ G1, cT G1 S → cDA G1 (sA S) → cFr148 G G1 → mg_wp (mg_KC scr t) mc_114 (d + 19) 25 [some (.ref 0), some (.int (Int32.ofNat i)), some (.int w)] [] G1 Q) → mg_m (mg_KC scr t) (d + 20) 114 [.ref 0, .int (Int32.ofNat i), .int w] G Q := fun {Q} nx => by
      refine mg_me [25] 90 my_114 ms_114 (Nat.le_of_ble_eq_true rfl) ?_
      refine ⟨fun h => absurd h (mg_nl0 (by omega)), fun _ => ?_⟩
      repeat (first | refine ⟨_, mg_Fs rfl rfl, ?_⟩ | refine ⟨Or.inl rfl, ?_⟩ | refine ⟨Or.inr ⟨_, rfl⟩, ?_⟩ | refine ⟨fun _ => ?_, fun h => absurd h (by decide)⟩ | refine ⟨fun h => absurd h (by decide), fun _ => ?_⟩)
      refine mg_m_mono (c165 d hT) (by omega) ?_
      rintro o q G1 ⟨rfl, rfl, hT1, hD, hF⟩
      exact ⟨_, mg_Fe hD.1.1 rfl rfl, fun _ => nx G1 hT1 hD (fr0 hF), fun h => absurd h (mg_nle hi (by omega))⟩
    refine pre fun G1 hT1 hD hF => ?_
    cases hw : vi w 6 with
    | none =>
      have hn : w.toInt < 0 ∨ (5 : Int) < w.toInt := by
        rcases vi_n hw (by decide) with q | q
        · exact Or.inl (by have := Int32.lt_iff_toInt_lt.mp q; rwa [show (0 : Int32).toInt = 0 from by decide] at this)
        · exact Or.inr (by have := Int32.le_iff_toInt_le.mp q; rw [show (Int32.ofNat 6).toInt = 6 from by decide] at this; omega)
      refine mg_go [] 90 25 ms_114 ?_
      refine ⟨by decide, fun _ => ⟨Nat.le_of_ble_eq_true rfl, Or.inr ⟨(show (2 : Int32) ≠ 0 by decide), rfl⟩, by decide, hT1, hF⟩, fun h => ?_, fun h => ?_, fun h => ?_, fun h => ?_, fun h => ?_, fun h => ?_, trivial⟩ <;> (exfalso; omega)
    | some j =>
      obtain ⟨rfl, hj⟩ := vi_s hw
      obtain ⟨hR, hg, -, hrt, -, hrb, hnf⟩ := id hD
      have h0 := hg.1
      rcases (show j = 0 ∨ j = 1 ∨ j = 2 ∨ j = 3 ∨ j = 4 ∨ j = 5 by omega) with rfl | rfl | rfl | rfl | rfl | rfl
      · refine mg_go [] 90 25 ms_114 ?_
        refine ⟨by decide, fun h => absurd h (by decide), fun _ => ?_, fun h => absurd h (by decide), fun h => absurd h (by decide), fun h => absurd h (by decide), fun h => absurd h (by decide), fun h => absurd h (by decide), trivial⟩
        repeat (first | refine ⟨_, mg_Fs rfl rfl, ?_⟩ | refine ⟨Or.inl rfl, ?_⟩ | refine ⟨Or.inr ⟨_, rfl⟩, ?_⟩ | refine ⟨fun _ => ?_, fun h => absurd h (by decide)⟩ | refine ⟨fun h => absurd h (by decide), fun _ => ?_⟩)
        refine mg_cv (c11 d hD hW hi) (by omega) ?_
        exact ⟨Or.inl rfl, cA_v hT1 hF rfl⟩
      · refine mg_go [] 90 25 ms_114 ?_
        refine ⟨by decide, fun h => absurd h (by decide), fun h => absurd h (by decide), fun _ => ?_, fun h => absurd h (by decide), fun h => absurd h (by decide), fun h => absurd h (by decide), fun h => absurd h (by decide), trivial⟩
        repeat (first | refine ⟨_, mg_Fs rfl rfl, ?_⟩ | refine ⟨Or.inl rfl, ?_⟩ | refine ⟨Or.inr ⟨_, rfl⟩, ?_⟩ | refine ⟨fun _ => ?_, fun h => absurd h (by decide)⟩ | refine ⟨fun h => absurd h (by decide), fun _ => ?_⟩)
        refine ⟨_, _, i, mg_Ai rfl (by decide), mg_ixN (by omega), by omega, Or.inl rfl, cA_v hT1 hF ?_⟩
        show G1.1 126 i = if i < 2 then _ else _
        split
        · rename_i h2
          exact (hR.2.2.2.1 i h2).1
        · rename_i h2
          exact (hR.2.2.2.2 i (by omega) hi).1
      · refine mg_go [] 90 25 ms_114 ?_
        refine ⟨by decide, fun h => absurd h (by decide), fun h => absurd h (by decide), fun h => absurd h (by decide), fun _ => ?_, fun h => absurd h (by decide), fun h => absurd h (by decide), fun h => absurd h (by decide), trivial⟩
        repeat (first | refine ⟨_, mg_Fs rfl rfl, ?_⟩ | refine ⟨Or.inl rfl, ?_⟩ | refine ⟨Or.inr ⟨_, rfl⟩, ?_⟩ | refine ⟨fun _ => ?_, fun h => absurd h (by decide)⟩ | refine ⟨fun h => absurd h (by decide), fun _ => ?_⟩)
        refine ⟨_, _, i, mg_Ai rfl (by decide), mg_ixN (by omega), by omega, Or.inl rfl, cA_v hT1 hF ?_⟩
        show G1.1 127 i = if i < 2 then _ else _
        split
        · rename_i h2
          exact (hR.2.2.2.1 i h2).2
        · rename_i h2
          exact (hR.2.2.2.2 i (by omega) hi).2
      · refine mg_go [] 90 25 ms_114 ?_
        refine ⟨by decide, fun h => absurd h (by decide), fun h => absurd h (by decide), fun h => absurd h (by decide), fun h => absurd h (by decide), fun _ => ?_, fun h => absurd h (by decide), fun h => absurd h (by decide), trivial⟩
        repeat (first | refine ⟨_, mg_Fs rfl rfl, ?_⟩ | refine ⟨Or.inl rfl, ?_⟩ | refine ⟨Or.inr ⟨_, rfl⟩, ?_⟩ | refine ⟨fun _ => ?_, fun h => absurd h (by decide)⟩ | refine ⟨fun h => absurd h (by decide), fun _ => ?_⟩)
        refine mg_cv (c12 (kc_d1 (scr := scr) (t := t)) hR hg d (Int32.ofNat i)) (by omega) ?_
        refine ⟨Or.inl rfl, cA_v hT1 hF (a_sum_c fun k hk => ?_)⟩
        obtain ⟨-, q2, q3, -, -⟩ := hg.2.2.2.2 (k + 2) (by omega) (by omega)
        by_cases e : gO (aG (sA S)) (k + 2) = i ∨ gH (aG (sA S)) (k + 2) = i
        · rw [if_pos e, if_pos (e.imp (fun q => by rw [q]) (fun q => by rw [q]))]
        · rw [if_neg e, if_neg (fun q => e (q.imp (fun q => (mg_eqN (by omega) (by omega)).mp q) (fun q => (mg_eqN (by omega) (by omega)).mp q)))]
      · refine mg_go [] 90 25 ms_114 ?_
        refine ⟨by decide, fun h => absurd h (by decide), fun h => absurd h (by decide), fun h => absurd h (by decide), fun h => absurd h (by decide), fun h => absurd h (by decide), fun _ => ?_, fun h => absurd h (by decide), trivial⟩
        repeat (first | refine ⟨_, mg_Fs rfl rfl, ?_⟩ | refine ⟨Or.inl rfl, ?_⟩ | refine ⟨Or.inr ⟨_, rfl⟩, ?_⟩ | refine ⟨fun _ => ?_, fun h => absurd h (by decide)⟩ | refine ⟨fun h => absurd h (by decide), fun _ => ?_⟩)
        refine ⟨_, _, i, mg_Ai rfl (by decide), mg_ixN (by omega), by omega, ?_⟩
        repeat (first | refine ⟨_, mg_Fs rfl rfl, ?_⟩ | refine ⟨Or.inl rfl, ?_⟩ | refine ⟨Or.inr ⟨_, rfl⟩, ?_⟩ | refine ⟨fun _ => ?_, fun h => absurd h (by decide)⟩ | refine ⟨fun h => absurd h (by decide), fun _ => ?_⟩)
        refine mg_cv (r330 d _ _) (by omega) ?_
        exact ⟨Or.inl rfl, cA_v hT1 hF (a_bc_b _ (fun f => g_rc (aG (sA S)) (aV (sA S)) (aR (sA S) f) i) h12 (hrb i hi))⟩
      · refine mg_go [] 90 25 ms_114 ?_
        refine ⟨by decide, fun h => absurd h (by decide), fun h => absurd h (by decide), fun h => absurd h (by decide), fun h => absurd h (by decide), fun h => absurd h (by decide), fun h => absurd h (by decide), fun _ => ?_, trivial⟩
        repeat (first | refine ⟨_, mg_Fs rfl rfl, ?_⟩ | refine ⟨Or.inl rfl, ?_⟩ | refine ⟨Or.inr ⟨_, rfl⟩, ?_⟩ | refine ⟨fun _ => ?_, fun h => absurd h (by decide)⟩ | refine ⟨fun h => absurd h (by decide), fun _ => ?_⟩)
        refine mg_cv (c13 (kc_d1 (scr := scr) (t := t)) d (aF (sA S)) hnf h12 (Int32.ofNat i)) (by omega) ?_
        refine ⟨Or.inl rfl, cA_v hT1 hF (a_sum_c fun f hf => ?_)⟩
        have hl := hD.rt hf
        rw [show G1.1 (122 + 7) f = Int32.ofNat (aR (sA S) f) from (hrt f hf).1]
        by_cases e : aR (sA S) f = i
        · rw [if_pos e, if_pos (by rw [e])]
        · rw [if_neg e, if_neg (fun q => e ((mg_eqN (by omega) (by omega)).mp q))]
end KC
