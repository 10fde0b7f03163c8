/-! CLASS: queries of tables -/
theorem a_rise_p {T : a_T} {v n : Nat} {x : Bool} : 0 < a_nb (a_stp T v x) n ↔ a_rise T v n x = true := a_nb_p
theorem a_pol_s : ∀ a b : Bool, (if a then (1 : Int32) else 0) + (if b then 2 else 0) = a_pol a b := by decide
section KC
variable {scr : Nat × (Nat → Int32)} {t : List mg_S} {G : mg_G} {S : a_S}
theorem c107 (d : Nat) (hT : cT G S) : mg_m (mg_KC scr t) (d + 1) 107 [.ref 0] G (cA G (ex1 xI) S (0, sC S)) := by
  refine mg_me [] 60 my_107 ms_107 (Nat.le_of_ble_eq_true rfl) ?_
  exact ⟨_, mg_Fs rfl rfl, _, mg_Fe hT.2.2.2.2.2.1.1 rfl rfl, Or.inl rfl, cA_v hT (mg_fr.rf _ _) rfl⟩
theorem c108 (d : Nat) (hT : cT G S) : mg_m (mg_KC scr t) (d + 1) 108 [.ref 0] G (cA G (ex1 xI) S (0, sP S)) := by
  refine mg_me [] 60 my_108 ms_108 (Nat.le_of_ble_eq_true rfl) ?_
  exact ⟨_, mg_Fs rfl rfl, _, mg_Fe hT.2.2.2.2.2.1.2 rfl rfl, Or.inl rfl, cA_v hT (mg_fr.rf _ _) rfl⟩
theorem c111 (d : Nat) (hT : cT G S) (l : Int32) : mg_m (mg_KC scr t) (d + 20) 111 [.ref 0, .int l] G (cA G (ex1 xI) S (q262 (sA S) l)) := by
  have h8 := hT.v8
  unfold q262
  cases hl : vi l (aV (sA S)) with
  | none =>
    rw [qV_x hl]
    refine mg_me [] 60 my_111 ms_111 (Nat.le_of_ble_eq_true rfl) ?_
    repeat (first | refine ⟨_, mg_Fs rfl rfl, ?_⟩ | refine ⟨Or.inl rfl, ?_⟩ | refine ⟨Or.inr ⟨_, rfl⟩, ?_⟩ | refine ⟨fun _ => ?_, fun h => absurd h (by decide)⟩ | refine ⟨fun h => absurd h (by decide), fun _ => ?_⟩)
    refine mg_cx (c158x d hT hl) (by omega) ?_
    exact cA_x hT (by decide) rfl
  | some i =>
    obtain ⟨rfl, hi⟩ := vi_s hl
    rw [qV_y hl]
    refine mg_me [] 60 my_111 ms_111 (Nat.le_of_ble_eq_true rfl) ?_
    repeat (first | refine ⟨_, mg_Fs rfl rfl, ?_⟩ | refine ⟨Or.inl rfl, ?_⟩ | refine ⟨Or.inr ⟨_, rfl⟩, ?_⟩ | refine ⟨fun _ => ?_, fun h => absurd h (by decide)⟩ | refine ⟨fun h => absurd h (by decide), fun _ => ?_⟩)
    refine mg_cn (c158y d hT hl) (by omega) ?_
    repeat (first | refine ⟨_, mg_Fs rfl rfl, ?_⟩ | refine ⟨Or.inl rfl, ?_⟩ | refine ⟨Or.inr ⟨_, rfl⟩, ?_⟩ | refine ⟨fun _ => ?_, fun h => absurd h (by decide)⟩ | refine ⟨fun h => absurd h (by decide), fun _ => ?_⟩)
    refine ⟨_, _, i, mg_Ai rfl (by decide), mg_ixN (by omega), by omega, Or.inl rfl, cA_v hT (mg_fr.rf _ _) (hT.1.2.2.2.2.2.2.1 i hi)⟩
theorem c115 (d : Nat) (hT : cT G S) (f x : Int32) : mg_m (mg_KC scr t) (d + 20) 115 [.ref 0, .int f, .int x] G (cA G (ex2 xI xA) S (q268 (sA S) f x)) := by
  have h8 := hT.v8
  have h12 := hT.f12
  have h4 := hT.w4
  have hp := mg_p256 (n := aV (sA S)) (by omega)
  unfold q268
  cases hf : vi f (aF (sA S)) with
  | none =>
    rw [qF_x hf]
    refine mg_me [] 60 my_115 ms_115 (Nat.le_of_ble_eq_true rfl) ?_
    repeat (first | refine ⟨_, mg_Fs rfl rfl, ?_⟩ | refine ⟨Or.inl rfl, ?_⟩ | refine ⟨Or.inr ⟨_, rfl⟩, ?_⟩ | refine ⟨fun _ => ?_, fun h => absurd h (by decide)⟩ | refine ⟨fun h => absurd h (by decide), fun _ => ?_⟩)
    refine mg_cx (c156x d hT hf) (by omega) ?_
    exact cA_x hT (by decide) rfl
  | some i =>
    obtain ⟨rfl, hi⟩ := vi_s hf
    rw [qF_y hf]
    cases hx : vi x (2 ^ aV (sA S)) with
    | none =>
      have hn := vi_n hx (by omega)
      refine mg_me [] 60 my_115 ms_115 (Nat.le_of_ble_eq_true rfl) ?_
      repeat (first | refine ⟨_, mg_Fs rfl rfl, ?_⟩ | refine ⟨Or.inl rfl, ?_⟩ | refine ⟨Or.inr ⟨_, rfl⟩, ?_⟩ | refine ⟨fun _ => ?_, fun h => absurd h (by decide)⟩ | refine ⟨fun h => absurd h (by decide), fun _ => ?_⟩)
      refine mg_cn (c156y d hT hf) (by omega) ?_
      refine ⟨fun _ => ⟨Nat.le_of_ble_eq_true rfl, cA_x hT (by decide) rfl⟩, fun h0 => ?_⟩
      repeat (first | refine ⟨_, mg_Fs rfl rfl, ?_⟩ | refine ⟨Or.inl rfl, ?_⟩ | refine ⟨Or.inr ⟨_, rfl⟩, ?_⟩ | refine ⟨fun _ => ?_, fun h => absurd h (by decide)⟩ | refine ⟨fun h => absurd h (by decide), fun _ => ?_⟩)
      refine mg_cv (c71 d kc_s1 (by omega) hT.1.2.2.1) (by omega) ?_
      exact ⟨fun h => (hn.elim (fun q => absurd q (Int32.not_lt.mpr h0)) (fun q => absurd h (Int32.not_lt.mpr q))), fun _ => ⟨Nat.le_of_ble_eq_true rfl, cA_x hT (by decide) rfl⟩⟩
    | some k =>
      obtain ⟨rfl, hk⟩ := vi_s hx
      refine mg_me [] 60 my_115 ms_115 (Nat.le_of_ble_eq_true rfl) ?_
      repeat (first | refine ⟨_, mg_Fs rfl rfl, ?_⟩ | refine ⟨Or.inl rfl, ?_⟩ | refine ⟨Or.inr ⟨_, rfl⟩, ?_⟩ | refine ⟨fun _ => ?_, fun h => absurd h (by decide)⟩ | refine ⟨fun h => absurd h (by decide), fun _ => ?_⟩)
      refine mg_cn (c156y d hT hf) (by omega) ?_
      refine ⟨fun h => absurd h (mg_nl0 (by omega)), fun _ => ?_⟩
      repeat (first | refine ⟨_, mg_Fs rfl rfl, ?_⟩ | refine ⟨Or.inl rfl, ?_⟩ | refine ⟨Or.inr ⟨_, rfl⟩, ?_⟩ | refine ⟨fun _ => ?_, fun h => absurd h (by decide)⟩ | refine ⟨fun h => absurd h (by decide), fun _ => ?_⟩)
      refine mg_cv (c71 d kc_s1 (by omega) hT.1.2.2.1) (by omega) ?_
      refine ⟨fun _ => ?_, fun h => absurd h (mg_nle hk (by omega))⟩
      repeat (first | refine ⟨_, mg_Fs rfl rfl, ?_⟩ | refine ⟨Or.inl rfl, ?_⟩ | refine ⟨Or.inr ⟨_, rfl⟩, ?_⟩ | refine ⟨fun _ => ?_, fun h => absurd h (by decide)⟩ | refine ⟨fun h => absurd h (by decide), fun _ => ?_⟩)
      refine mg_cv (c89n d i k kc_s1.T (hT.rw hi) (by omega) ((mg_bnd _ (by omega)).2.2 k (by omega) hk) (by omega)) (by omega) ?_
      exact ⟨Or.inl rfl, cA_v hT (mg_fr.rf _ _) rfl⟩
theorem c116 (d : Nat) (hT : cT G S) (f x : Int32) : mg_m (mg_KC scr t) (d + 20) 116 [.ref 0, .int f, .int x] G (cA G (ex2 xI xN) S (q270 (sA S) f x)) := by
  have h8 := hT.v8
  have h12 := hT.f12
  have hp := mg_p256 (n := aV (sA S)) (by omega)
  unfold q270
  cases hf : vi f (aF (sA S)) with
  | none =>
    rw [qF_x hf]
    refine mg_me [] 60 my_116 ms_116 (Nat.le_of_ble_eq_true rfl) ?_
    repeat (first | refine ⟨_, mg_Fs rfl rfl, ?_⟩ | refine ⟨Or.inl rfl, ?_⟩ | refine ⟨Or.inr ⟨_, rfl⟩, ?_⟩ | refine ⟨fun _ => ?_, fun h => absurd h (by decide)⟩ | refine ⟨fun h => absurd h (by decide), fun _ => ?_⟩)
    refine mg_cx (c156x d hT hf) (by omega) ?_
    exact cA_x hT (by decide) rfl
  | some i =>
    obtain ⟨rfl, hi⟩ := vi_s hf
    rw [qF_y hf]
    have h73 := c73 (K := mg_KC scr t) d i kc_s1 (show aV (sA S) < 9 by omega) hT.1.2.2.1 (show i < 14 by omega) (hT.rw hi) x
    cases hm : a_mod (sA S) i x with
    | none =>
      have hm' : a_ff (fun k => a_at (aT (sA S) i) k && decide (a_sum (a_atI (aT (sA S) i)) k = x)) (2 ^ aV (sA S)) = none := hm
      rw [hm'] at h73
      refine mg_me [] 60 my_116 ms_116 (Nat.le_of_ble_eq_true rfl) ?_
      repeat (first | refine ⟨_, mg_Fs rfl rfl, ?_⟩ | refine ⟨Or.inl rfl, ?_⟩ | refine ⟨Or.inr ⟨_, rfl⟩, ?_⟩ | refine ⟨fun _ => ?_, fun h => absurd h (by decide)⟩ | refine ⟨fun h => absurd h (by decide), fun _ => ?_⟩)
      refine mg_cn (c156y d hT hf) (by omega) ?_
      repeat (first | refine ⟨_, mg_Fs rfl rfl, ?_⟩ | refine ⟨Or.inl rfl, ?_⟩ | refine ⟨Or.inr ⟨_, rfl⟩, ?_⟩ | refine ⟨fun _ => ?_, fun h => absurd h (by decide)⟩ | refine ⟨fun h => absurd h (by decide), fun _ => ?_⟩)
      refine mg_cv (h73) (by omega) ?_
      exact ⟨fun h => absurd rfl h, fun _ => ⟨Nat.le_of_ble_eq_true rfl, cA_x hT (by decide) rfl⟩⟩
    | some k =>
      have hk := a_mod_lt hm
      have hm' : a_ff (fun k => a_at (aT (sA S) i) k && decide (a_sum (a_atI (aT (sA S) i)) k = x)) (2 ^ aV (sA S)) = some k := hm
      rw [hm'] at h73
      refine mg_me [] 60 my_116 ms_116 (Nat.le_of_ble_eq_true rfl) ?_
      repeat (first | refine ⟨_, mg_Fs rfl rfl, ?_⟩ | refine ⟨Or.inl rfl, ?_⟩ | refine ⟨Or.inr ⟨_, rfl⟩, ?_⟩ | refine ⟨fun _ => ?_, fun h => absurd h (by decide)⟩ | refine ⟨fun h => absurd h (by decide), fun _ => ?_⟩)
      refine mg_cn (c156y d hT hf) (by omega) ?_
      repeat (first | refine ⟨_, mg_Fs rfl rfl, ?_⟩ | refine ⟨Or.inl rfl, ?_⟩ | refine ⟨Or.inr ⟨_, rfl⟩, ?_⟩ | refine ⟨fun _ => ?_, fun h => absurd h (by decide)⟩ | refine ⟨fun h => absurd h (by decide), fun _ => ?_⟩)
      refine mg_cv (h73) (by omega) ?_
      exact ⟨fun _ => ⟨Or.inl rfl, cA_v hT (mg_fr.rf _ _) rfl⟩, fun h => absurd h (mg_n1 (by omega))⟩
theorem c117 (d : Nat) (hT : cT G S) (f : Int32) : mg_m (mg_KC scr t) (d + 20) 117 [.ref 0, .int f] G (cA G (ex1 xI) S (q271 (sA S) f)) := by
  unfold q271
  cases hf : vi f (aF (sA S)) with
  | none =>
    rw [qF_x hf]
    refine mg_me [] 60 my_117 ms_117 (Nat.le_of_ble_eq_true rfl) ?_
    repeat (first | refine ⟨_, mg_Fs rfl rfl, ?_⟩ | refine ⟨Or.inl rfl, ?_⟩ | refine ⟨Or.inr ⟨_, rfl⟩, ?_⟩ | refine ⟨fun _ => ?_, fun h => absurd h (by decide)⟩ | refine ⟨fun h => absurd h (by decide), fun _ => ?_⟩)
    refine mg_cx (c156x d hT hf) (by omega) ?_
    exact cA_x hT (by decide) rfl
  | some i =>
    obtain ⟨rfl, hi⟩ := vi_s hf
    rw [qF_y hf]
    refine mg_me [] 60 my_117 ms_117 (Nat.le_of_ble_eq_true rfl) ?_
    repeat (first | refine ⟨_, mg_Fs rfl rfl, ?_⟩ | refine ⟨Or.inl rfl, ?_⟩ | refine ⟨Or.inr ⟨_, rfl⟩, ?_⟩ | refine ⟨fun _ => ?_, fun h => absurd h (by decide)⟩ | refine ⟨fun h => absurd h (by decide), fun _ => ?_⟩)
    refine mg_cn (c156y d hT hf) (by omega) ?_
    repeat (first | refine ⟨_, mg_Fs rfl rfl, ?_⟩ | refine ⟨Or.inl rfl, ?_⟩ | refine ⟨Or.inr ⟨_, rfl⟩, ?_⟩ | refine ⟨fun _ => ?_, fun h => absurd h (by decide)⟩ | refine ⟨fun h => absurd h (by decide), fun _ => ?_⟩)
    refine mg_cv (c170 d hT hi) (by omega) ?_
    exact ⟨Or.inl rfl, cA_v hT (mg_fr.rf _ _) rfl⟩
theorem c118 (d : Nat) (hT : cT G S) (f v : Int32) : mg_m (mg_KC scr t) (d + 20) 118 [.ref 0, .int f, .int v] G (cA G (ex1 xI) S (q272 (sA S) f v)) := by
  have h8 := hT.v8
  have h12 := hT.f12
  have hp := mg_p256 (n := aV (sA S)) (by omega)
  unfold q272
  cases hf : vi f (aF (sA S)) with
  | none =>
    rw [qF_x hf]
    refine mg_me [] 60 my_118 ms_118 (Nat.le_of_ble_eq_true rfl) ?_
    repeat (first | refine ⟨_, mg_Fs rfl rfl, ?_⟩ | refine ⟨Or.inl rfl, ?_⟩ | refine ⟨Or.inr ⟨_, rfl⟩, ?_⟩ | refine ⟨fun _ => ?_, fun h => absurd h (by decide)⟩ | refine ⟨fun h => absurd h (by decide), fun _ => ?_⟩)
    refine mg_cx (c156x d hT hf) (by omega) ?_
    exact cA_x hT (by decide) rfl
  | some i =>
    obtain ⟨rfl, hi⟩ := vi_s hf
    rw [qF_y hf]
    cases hv : vi v (aV (sA S)) with
    | none =>
      rw [qV_x hv]
      refine mg_me [] 60 my_118 ms_118 (Nat.le_of_ble_eq_true rfl) ?_
      repeat (first | refine ⟨_, mg_Fs rfl rfl, ?_⟩ | refine ⟨Or.inl rfl, ?_⟩ | refine ⟨Or.inr ⟨_, rfl⟩, ?_⟩ | refine ⟨fun _ => ?_, fun h => absurd h (by decide)⟩ | refine ⟨fun h => absurd h (by decide), fun _ => ?_⟩)
      refine mg_cn (c156y d hT hf) (by omega) ?_
      repeat (first | refine ⟨_, mg_Fs rfl rfl, ?_⟩ | refine ⟨Or.inl rfl, ?_⟩ | refine ⟨Or.inr ⟨_, rfl⟩, ?_⟩ | refine ⟨fun _ => ?_, fun h => absurd h (by decide)⟩ | refine ⟨fun h => absurd h (by decide), fun _ => ?_⟩)
      refine mg_cx (c157x d hT hv) (by omega) ?_
      exact cA_x hT (by decide) rfl
    | some j =>
      obtain ⟨rfl, hj⟩ := vi_s hv
      rw [qV_y hv]
      have k0 := c74 (K := mg_KC scr t) d i j false kc_s1 (show aV (sA S) < 9 by omega) hj hT.1.2.2.1 (show i < 14 by omega) (hT.rw hi)
      have k1 := c74 (K := mg_KC scr t) d i j true kc_s1 (show aV (sA S) < 9 by omega) hj hT.1.2.2.1 (show i < 14 by omega) (hT.rw hi)
      rw [a_nb_e] at k0 k1
      have l0 := a_nb_le (a_stp (aT (sA S) i) j false) (2 ^ aV (sA S))
      have l1 := a_nb_le (a_stp (aT (sA S) i) j true) (2 ^ aV (sA S))
      have p0 := a_rise_p (T := aT (sA S) i) (v := j) (n := 2 ^ aV (sA S)) (x := false)
      have p1 := a_rise_p (T := aT (sA S) i) (v := j) (n := 2 ^ aV (sA S)) (x := true)
      rw [← a_pol_s]
      have fin : ∀ r : Int32, r = (if a_rise (aT (sA S) i) j (2 ^ aV (sA S)) false then 1 else 0) → mg_wp (mg_KC scr t) mc_118 (d + 19) 28 [some (.ref 0), some (.int (Int32.ofNat i)), some (.int (Int32.ofNat j)), none, none] [.int r] G (cA G (ex1 xI) S (0, (if a_rise (aT (sA S) i) j (2 ^ aV (sA S)) false then 1 else 0) + (if a_rise (aT (sA S) i) j (2 ^ aV (sA S)) true then 2 else 0))) := fun r hr => by
        refine mg_go [] 60 28 ms_118 ?_
        repeat (first | refine ⟨_, mg_Fs rfl rfl, ?_⟩ | refine ⟨Or.inl rfl, ?_⟩ | refine ⟨Or.inr ⟨_, rfl⟩, ?_⟩ | refine ⟨fun _ => ?_, fun h => absurd h (by decide)⟩ | refine ⟨fun h => absurd h (by decide), fun _ => ?_⟩)
        refine mg_cv (k1) (by omega) ?_
        refine ⟨fun h => ?_, fun h => ?_⟩
        · have h := (mg_leN (b := 0) (by omega) (by decide)).mp h
          refine ⟨Or.inl rfl, cA_v hT (mg_fr.rf _ _) ?_⟩
          rw [hr, if_neg (show ¬ a_rise (aT (sA S) i) j (2 ^ aV (sA S)) true = true from fun q => by have := p1.mpr q; omega)]
          rfl
        · have h := (mg_ltN (a := 0) (by decide) (by omega)).mp h
          refine ⟨Or.inl rfl, cA_v hT (mg_fr.rf _ _) ?_⟩
          rw [hr, if_pos (p1.mp h)]
          rfl
      refine mg_me [28] 60 my_118 ms_118 (Nat.le_of_ble_eq_true rfl) ?_
      repeat (first | refine ⟨_, mg_Fs rfl rfl, ?_⟩ | refine ⟨Or.inl rfl, ?_⟩ | refine ⟨Or.inr ⟨_, rfl⟩, ?_⟩ | refine ⟨fun _ => ?_, fun h => absurd h (by decide)⟩ | refine ⟨fun h => absurd h (by decide), fun _ => ?_⟩)
      refine mg_cn (c156y d hT hf) (by omega) ?_
      repeat (first | refine ⟨_, mg_Fs rfl rfl, ?_⟩ | refine ⟨Or.inl rfl, ?_⟩ | refine ⟨Or.inr ⟨_, rfl⟩, ?_⟩ | refine ⟨fun _ => ?_, fun h => absurd h (by decide)⟩ | refine ⟨fun h => absurd h (by decide), fun _ => ?_⟩)
      refine mg_cn (c157y d hT hv) (by omega) ?_
      repeat (first | refine ⟨_, mg_Fs rfl rfl, ?_⟩ | refine ⟨Or.inl rfl, ?_⟩ | refine ⟨Or.inr ⟨_, rfl⟩, ?_⟩ | refine ⟨fun _ => ?_, fun h => absurd h (by decide)⟩ | refine ⟨fun h => absurd h (by decide), fun _ => ?_⟩)
      refine mg_cv (k0) (by omega) ?_
      refine ⟨fun h => ?_, fun h => ?_⟩
      · have h := (mg_leN (b := 0) (by omega) (by decide)).mp h
        exact fin _ (by rw [if_neg (show ¬ a_rise (aT (sA S) i) j (2 ^ aV (sA S)) false = true from fun q => by have := p0.mpr q; omega)] <;> rfl)
      · have h := (mg_ltN (a := 0) (by decide) (by omega)).mp h
        exact fin _ (by rw [if_pos (p0.mp h)] <;> rfl)
theorem c119 (d : Nat) (hT : cT G S) (f v : Int32) : mg_m (mg_KC scr t) (d + 20) 119 [.ref 0, .int f, .int v] G (cA G (ex1 xI) S (q273 (sA S) f v)) := by
  have h8 := hT.v8
  have h12 := hT.f12
  unfold q273
  cases hf : vi f (aF (sA S)) with
  | none =>
    rw [qF_x hf]
    refine mg_me [] 60 my_119 ms_119 (Nat.le_of_ble_eq_true rfl) ?_
    repeat (first | refine ⟨_, mg_Fs rfl rfl, ?_⟩ | refine ⟨Or.inl rfl, ?_⟩ | refine ⟨Or.inr ⟨_, rfl⟩, ?_⟩ | refine ⟨fun _ => ?_, fun h => absurd h (by decide)⟩ | refine ⟨fun h => absurd h (by decide), fun _ => ?_⟩)
    refine mg_cx (c156x d hT hf) (by omega) ?_
    exact cA_x hT (by decide) rfl
  | some i =>
    obtain ⟨rfl, hi⟩ := vi_s hf
    rw [qF_y hf]
    cases hv : vi v (aV (sA S)) with
    | none =>
      rw [qV_x hv]
      refine mg_me [] 60 my_119 ms_119 (Nat.le_of_ble_eq_true rfl) ?_
      repeat (first | refine ⟨_, mg_Fs rfl rfl, ?_⟩ | refine ⟨Or.inl rfl, ?_⟩ | refine ⟨Or.inr ⟨_, rfl⟩, ?_⟩ | refine ⟨fun _ => ?_, fun h => absurd h (by decide)⟩ | refine ⟨fun h => absurd h (by decide), fun _ => ?_⟩)
      refine mg_cn (c156y d hT hf) (by omega) ?_
      repeat (first | refine ⟨_, mg_Fs rfl rfl, ?_⟩ | refine ⟨Or.inl rfl, ?_⟩ | refine ⟨Or.inr ⟨_, rfl⟩, ?_⟩ | refine ⟨fun _ => ?_, fun h => absurd h (by decide)⟩ | refine ⟨fun h => absurd h (by decide), fun _ => ?_⟩)
      refine mg_cx (c157x d hT hv) (by omega) ?_
      exact cA_x hT (by decide) rfl
    | some j =>
      obtain ⟨rfl, hj⟩ := vi_s hv
      rw [qV_y hv, a_influ _ hj h8]
      refine mg_me [] 60 my_119 ms_119 (Nat.le_of_ble_eq_true rfl) ?_
      repeat (first | refine ⟨_, mg_Fs rfl rfl, ?_⟩ | refine ⟨Or.inl rfl, ?_⟩ | refine ⟨Or.inr ⟨_, rfl⟩, ?_⟩ | refine ⟨fun _ => ?_, fun h => absurd h (by decide)⟩ | refine ⟨fun h => absurd h (by decide), fun _ => ?_⟩)
      refine mg_cn (c156y d hT hf) (by omega) ?_
      repeat (first | refine ⟨_, mg_Fs rfl rfl, ?_⟩ | refine ⟨Or.inl rfl, ?_⟩ | refine ⟨Or.inr ⟨_, rfl⟩, ?_⟩ | refine ⟨fun _ => ?_, fun h => absurd h (by decide)⟩ | refine ⟨fun h => absurd h (by decide), fun _ => ?_⟩)
      refine mg_cn (c157y d hT hv) (by omega) ?_
      repeat (first | refine ⟨_, mg_Fs rfl rfl, ?_⟩ | refine ⟨Or.inl rfl, ?_⟩ | refine ⟨Or.inr ⟨_, rfl⟩, ?_⟩ | refine ⟨fun _ => ?_, fun h => absurd h (by decide)⟩ | refine ⟨fun h => absurd h (by decide), fun _ => ?_⟩)
      refine mg_cv (c74 (K := mg_KC scr t) d i j false kc_s1 (show aV (sA S) < 9 by omega) hj hT.1.2.2.1 (show i < 14 by omega) (hT.rw hi)) (by omega) ?_
      repeat (first | refine ⟨_, mg_Fs rfl rfl, ?_⟩ | refine ⟨Or.inl rfl, ?_⟩ | refine ⟨Or.inr ⟨_, rfl⟩, ?_⟩ | refine ⟨fun _ => ?_, fun h => absurd h (by decide)⟩ | refine ⟨fun h => absurd h (by decide), fun _ => ?_⟩)
      refine mg_cv (c74 (K := mg_KC scr t) d i j true kc_s1 (show aV (sA S) < 9 by omega) hj hT.1.2.2.1 (show i < 14 by omega) (hT.rw hi)) (by omega) ?_
      exact ⟨Or.inl rfl, cA_v hT (mg_fr.rf _ _) rfl⟩
theorem cT.lst (hT : cT G S) (f n : Nat) : a_lst (aT (sA S) f) (G.1 36) (aV (sA S)) n = a_lst (aT (sA S) f) (aC (sA S)) (aV (sA S)) n := a_lst_c (fun v hv => hT.1.2.2.2.2.2.2.2.1 v hv) n
theorem c123 (d : Nat) (hT : cT G S) (f : Int32) : mg_m (mg_KC scr t) (d + 20) 123 [.ref 0, .int f] G (cA G (ex1 xI) S (q282 (sA S) f)) := by
  have h8 := hT.v8
  have h12 := hT.f12
  have hp := mg_p256 (n := aV (sA S)) (by omega)
  unfold q282
  cases hf : vi f (aF (sA S)) with
  | none =>
    rw [qF_x hf]
    refine mg_me [] 60 my_123 ms_123 (Nat.le_of_ble_eq_true rfl) ?_
    repeat (first | refine ⟨_, mg_Fs rfl rfl, ?_⟩ | refine ⟨Or.inl rfl, ?_⟩ | refine ⟨Or.inr ⟨_, rfl⟩, ?_⟩ | refine ⟨fun _ => ?_, fun h => absurd h (by decide)⟩ | refine ⟨fun h => absurd h (by decide), fun _ => ?_⟩)
    refine mg_cx (c156x d hT hf) (by omega) ?_
    exact cA_x hT (by decide) rfl
  | some i =>
    obtain ⟨rfl, hi⟩ := vi_s hf
    rw [qF_y hf]
    have h76 := c76 (K := mg_KC scr t) d i kc_s1 (show aV (sA S) < 9 by omega) hT.1.2.2.1 (show i < 14 by omega) (hT.rw hi)
    rw [hT.lst] at h76
    cases hm : a_lst (aT (sA S) i) (aC (sA S)) (aV (sA S)) (2 ^ aV (sA S)) with
    | none =>
      rw [hm] at h76
      refine mg_me [] 60 my_123 ms_123 (Nat.le_of_ble_eq_true rfl) ?_
      repeat (first | refine ⟨_, mg_Fs rfl rfl, ?_⟩ | refine ⟨Or.inl rfl, ?_⟩ | refine ⟨Or.inr ⟨_, rfl⟩, ?_⟩ | refine ⟨fun _ => ?_, fun h => absurd h (by decide)⟩ | refine ⟨fun h => absurd h (by decide), fun _ => ?_⟩)
      refine mg_cn (c156y d hT hf) (by omega) ?_
      repeat (first | refine ⟨_, mg_Fs rfl rfl, ?_⟩ | refine ⟨Or.inl rfl, ?_⟩ | refine ⟨Or.inr ⟨_, rfl⟩, ?_⟩ | refine ⟨fun _ => ?_, fun h => absurd h (by decide)⟩ | refine ⟨fun h => absurd h (by decide), fun _ => ?_⟩)
      refine mg_cv (h76) (by omega) ?_
      exact ⟨fun h => absurd rfl h, fun _ => ⟨Or.inl rfl, cA_v hT (mg_fr.rf _ _) rfl⟩⟩
    | some k =>
      have hk := a_lst_lt _ _ _ _ _ hm
      rw [hm] at h76
      have h75 := c75 (K := mg_KC scr t) d k kc_s1 (show aV (sA S) < 9 by omega) (by omega) hT.1.2.2.1
      rw [show a_cst (G.1 (30 + 6)) (aV (sA S)) k = a_cst (aC (sA S)) (aV (sA S)) k from a_cst_c (fun v hv => hT.1.2.2.2.2.2.2.2.1 v hv)] at h75
      refine mg_me [] 60 my_123 ms_123 (Nat.le_of_ble_eq_true rfl) ?_
      repeat (first | refine ⟨_, mg_Fs rfl rfl, ?_⟩ | refine ⟨Or.inl rfl, ?_⟩ | refine ⟨Or.inr ⟨_, rfl⟩, ?_⟩ | refine ⟨fun _ => ?_, fun h => absurd h (by decide)⟩ | refine ⟨fun h => absurd h (by decide), fun _ => ?_⟩)
      refine mg_cn (c156y d hT hf) (by omega) ?_
      repeat (first | refine ⟨_, mg_Fs rfl rfl, ?_⟩ | refine ⟨Or.inl rfl, ?_⟩ | refine ⟨Or.inr ⟨_, rfl⟩, ?_⟩ | refine ⟨fun _ => ?_, fun h => absurd h (by decide)⟩ | refine ⟨fun h => absurd h (by decide), fun _ => ?_⟩)
      refine mg_cv (h76) (by omega) ?_
      refine ⟨fun _ => ?_, fun h => absurd h (mg_n1 (by omega))⟩
      repeat (first | refine ⟨_, mg_Fs rfl rfl, ?_⟩ | refine ⟨Or.inl rfl, ?_⟩ | refine ⟨Or.inr ⟨_, rfl⟩, ?_⟩ | refine ⟨fun _ => ?_, fun h => absurd h (by decide)⟩ | refine ⟨fun h => absurd h (by decide), fun _ => ?_⟩)
      refine mg_cv (h75) (by omega) ?_
      exact ⟨Or.inl rfl, cA_v hT (mg_fr.rf _ _) rfl⟩
theorem c124 (d : Nat) (hT : cT G S) (f : Int32) : mg_m (mg_KC scr t) (d + 20) 124 [.ref 0, .int f] G (cA G (ex2 xI xN) S (q283 (sA S) f)) := by
  have h8 := hT.v8
  have h12 := hT.f12
  have hp := mg_p256 (n := aV (sA S)) (by omega)
  unfold q283
  cases hf : vi f (aF (sA S)) with
  | none =>
    rw [qF_x hf]
    refine mg_me [] 60 my_124 ms_124 (Nat.le_of_ble_eq_true rfl) ?_
    repeat (first | refine ⟨_, mg_Fs rfl rfl, ?_⟩ | refine ⟨Or.inl rfl, ?_⟩ | refine ⟨Or.inr ⟨_, rfl⟩, ?_⟩ | refine ⟨fun _ => ?_, fun h => absurd h (by decide)⟩ | refine ⟨fun h => absurd h (by decide), fun _ => ?_⟩)
    refine mg_cx (c156x d hT hf) (by omega) ?_
    exact cA_x hT (by decide) rfl
  | some i =>
    obtain ⟨rfl, hi⟩ := vi_s hf
    rw [qF_y hf]
    have h76 := c76 (K := mg_KC scr t) d i kc_s1 (show aV (sA S) < 9 by omega) hT.1.2.2.1 (show i < 14 by omega) (hT.rw hi)
    rw [hT.lst] at h76
    cases hm : a_lst (aT (sA S) i) (aC (sA S)) (aV (sA S)) (2 ^ aV (sA S)) with
    | none =>
      rw [hm] at h76
      refine mg_me [] 60 my_124 ms_124 (Nat.le_of_ble_eq_true rfl) ?_
      repeat (first | refine ⟨_, mg_Fs rfl rfl, ?_⟩ | refine ⟨Or.inl rfl, ?_⟩ | refine ⟨Or.inr ⟨_, rfl⟩, ?_⟩ | refine ⟨fun _ => ?_, fun h => absurd h (by decide)⟩ | refine ⟨fun h => absurd h (by decide), fun _ => ?_⟩)
      refine mg_cn (c156y d hT hf) (by omega) ?_
      repeat (first | refine ⟨_, mg_Fs rfl rfl, ?_⟩ | refine ⟨Or.inl rfl, ?_⟩ | refine ⟨Or.inr ⟨_, rfl⟩, ?_⟩ | refine ⟨fun _ => ?_, fun h => absurd h (by decide)⟩ | refine ⟨fun h => absurd h (by decide), fun _ => ?_⟩)
      refine mg_cv (h76) (by omega) ?_
      exact ⟨fun h => absurd rfl h, fun _ => ⟨Nat.le_of_ble_eq_true rfl, cA_x hT (by decide) rfl⟩⟩
    | some k =>
      have hk := a_lst_lt _ _ _ _ _ hm
      rw [hm] at h76
      refine mg_me [] 60 my_124 ms_124 (Nat.le_of_ble_eq_true rfl) ?_
      repeat (first | refine ⟨_, mg_Fs rfl rfl, ?_⟩ | refine ⟨Or.inl rfl, ?_⟩ | refine ⟨Or.inr ⟨_, rfl⟩, ?_⟩ | refine ⟨fun _ => ?_, fun h => absurd h (by decide)⟩ | refine ⟨fun h => absurd h (by decide), fun _ => ?_⟩)
      refine mg_cn (c156y d hT hf) (by omega) ?_
      repeat (first | refine ⟨_, mg_Fs rfl rfl, ?_⟩ | refine ⟨Or.inl rfl, ?_⟩ | refine ⟨Or.inr ⟨_, rfl⟩, ?_⟩ | refine ⟨fun _ => ?_, fun h => absurd h (by decide)⟩ | refine ⟨fun h => absurd h (by decide), fun _ => ?_⟩)
      refine mg_cv (h76) (by omega) ?_
      exact ⟨fun _ => ⟨Or.inl rfl, cA_v hT (mg_fr.rf _ _) rfl⟩, fun h => absurd h (mg_n1 (by omega))⟩
theorem c126 (d : Nat) (hT : cT G S) (f g : Int32) : mg_m (mg_KC scr t) (d + 20) 126 [.ref 0, .int f, .int g] G (cA G (ex1 xI) S (q286 (sA S) f g)) := by
  unfold q286
  cases hf : vi f (aF (sA S)) with
  | none =>
    rw [qF_x hf]
    refine mg_me [] 60 my_126 ms_126 (Nat.le_of_ble_eq_true rfl) ?_
    repeat (first | refine ⟨_, mg_Fs rfl rfl, ?_⟩ | refine ⟨Or.inl rfl, ?_⟩ | refine ⟨Or.inr ⟨_, rfl⟩, ?_⟩ | refine ⟨fun _ => ?_, fun h => absurd h (by decide)⟩ | refine ⟨fun h => absurd h (by decide), fun _ => ?_⟩)
    refine mg_cx (c156x d hT hf) (by omega) ?_
    exact cA_x hT (by decide) rfl
  | some i =>
    obtain ⟨rfl, hi⟩ := vi_s hf
    rw [qF_y hf]
    cases hg : vi g (aF (sA S)) with
    | none =>
      rw [qF_x hg]
      refine mg_me [] 60 my_126 ms_126 (Nat.le_of_ble_eq_true rfl) ?_
      repeat (first | refine ⟨_, mg_Fs rfl rfl, ?_⟩ | refine ⟨Or.inl rfl, ?_⟩ | refine ⟨Or.inr ⟨_, rfl⟩, ?_⟩ | refine ⟨fun _ => ?_, fun h => absurd h (by decide)⟩ | refine ⟨fun h => absurd h (by decide), fun _ => ?_⟩)
      refine mg_cn (c156y d hT hf) (by omega) ?_
      repeat (first | refine ⟨_, mg_Fs rfl rfl, ?_⟩ | refine ⟨Or.inl rfl, ?_⟩ | refine ⟨Or.inr ⟨_, rfl⟩, ?_⟩ | refine ⟨fun _ => ?_, fun h => absurd h (by decide)⟩ | refine ⟨fun h => absurd h (by decide), fun _ => ?_⟩)
      refine mg_cx (c156x d hT hg) (by omega) ?_
      exact cA_x hT (by decide) rfl
    | some j =>
      obtain ⟨rfl, hj⟩ := vi_s hg
      rw [qF_y hg]
      refine mg_me [] 60 my_126 ms_126 (Nat.le_of_ble_eq_true rfl) ?_
      repeat (first | refine ⟨_, mg_Fs rfl rfl, ?_⟩ | refine ⟨Or.inl rfl, ?_⟩ | refine ⟨Or.inr ⟨_, rfl⟩, ?_⟩ | refine ⟨fun _ => ?_, fun h => absurd h (by decide)⟩ | refine ⟨fun h => absurd h (by decide), fun _ => ?_⟩)
      refine mg_cn (c156y d hT hf) (by omega) ?_
      repeat (first | refine ⟨_, mg_Fs rfl rfl, ?_⟩ | refine ⟨Or.inl rfl, ?_⟩ | refine ⟨Or.inr ⟨_, rfl⟩, ?_⟩ | refine ⟨fun _ => ?_, fun h => absurd h (by decide)⟩ | refine ⟨fun h => absurd h (by decide), fun _ => ?_⟩)
      refine mg_cn (c156y d hT hg) (by omega) ?_
      repeat (first | refine ⟨_, mg_Fs rfl rfl, ?_⟩ | refine ⟨Or.inl rfl, ?_⟩ | refine ⟨Or.inr ⟨_, rfl⟩, ?_⟩ | refine ⟨fun _ => ?_, fun h => absurd h (by decide)⟩ | refine ⟨fun h => absurd h (by decide), fun _ => ?_⟩)
      refine mg_cv (c88A d hT hi hj) (by omega) ?_
      exact ⟨Or.inr (by split <;> rfl), cA_v hT (mg_fr.rf _ _) rfl⟩
/-- the row for a comparison of two functions -/
theorem c82A (d : Nat) (hT : cT G S) (op : Int32) {f g : Nat} (hf : f < aF (sA S)) (hg : g < aF (sA S)) : mg_m (mg_KC scr t) (d + 2) 82 [.ref 31, .int op, .int (Int32.ofNat 12), .int (Int32.ofNat f), .int (Int32.ofNat g)] G (fun o q G' => o = .inl none ∧ q = 0 ∧ cT G' S ∧ cRow G' 32 12 (a_wds (aV (sA S))) (a_op op (aT (sA S) f) (aT (sA S) g)) ∧ mg_fr (fun a => a = 32) G G') := by
  have h12 := hT.f12
  have h4 := hT.w4
  refine mg_m_mono (c82 d 12 f g kc_s1.T op hT.1.1 h4 (by omega) (by omega) (by omega)) (Nat.le_refl _) ?_
  rintro o q G' ⟨rfl, rfl, rfl⟩
  refine ⟨rfl, rfl, hT.row (Nat.le_refl 12), fun w hw => ?_, mg_fr.cW _ _ _ _ rfl⟩
  rw [cW_in _ _ _ _ _ _ hw]
  show a_comb op (G.2.1 32 (4 * f + w)) (G.2.1 32 (4 * g + w)) = a_wd (a_tb4 _) w
  rw [a_wd4 _ w (by omega), hT.rw hf w hw, hT.rw hg w hw]
theorem fr32 {G G' : mg_G} (h : mg_fr (fun a => a = 32) G G') : cFr148 G G' := h.mono (fun a ha => by have ha : a = 32 := ha; show a < 148; omega)
theorem c73m (d : Nat) (hT : cT G S) {T : a_T} (hr : cRow G 32 12 (a_wds (aV (sA S))) T) : mg_m (mg_KC scr t) (d + 2) 73 [.ref 30, .int (Int32.ofNat 12), .int 0] G (mg_v (.int (a_oi (a_ff (fun k => a_at T k) (2 ^ aV (sA S))))) G) := by
  have h8 := hT.v8
  have h73 := c73 (K := mg_KC scr t) d 12 kc_s1 (show aV (sA S) < 9 by omega) hT.1.2.2.1 (by decide) hr 0
  rwa [a_ff_m0 T (mg_p256 (by omega))] at h73
theorem c127 (d : Nat) (hT : cT G S) (f g : Int32) : mg_m (mg_KC scr t) (d + 20) 127 [.ref 0, .int f, .int g] G (cA G (ex1 xI) S (q287 (sA S) f g)) := by
  have hp := mg_p256 (n := aV (sA S)) (by have := hT.v8; omega)
  unfold q287
  cases hf : vi f (aF (sA S)) with
  | none =>
    rw [qF_x hf]
    refine mg_me [] 60 my_127 ms_127 (Nat.le_of_ble_eq_true rfl) ?_
    repeat (first | refine ⟨_, mg_Fs rfl rfl, ?_⟩ | refine ⟨Or.inl rfl, ?_⟩ | refine ⟨Or.inr ⟨_, rfl⟩, ?_⟩ | refine ⟨fun _ => ?_, fun h => absurd h (by decide)⟩ | refine ⟨fun h => absurd h (by decide), fun _ => ?_⟩)
    refine mg_cx (c156x d hT hf) (by omega) ?_
    exact cA_x hT (by decide) rfl
  | some i =>
    obtain ⟨rfl, hi⟩ := vi_s hf
    rw [qF_y hf]
    cases hg : vi g (aF (sA S)) with
    | none =>
      rw [qF_x hg]
      refine mg_me [] 60 my_127 ms_127 (Nat.le_of_ble_eq_true rfl) ?_
      repeat (first | refine ⟨_, mg_Fs rfl rfl, ?_⟩ | refine ⟨Or.inl rfl, ?_⟩ | refine ⟨Or.inr ⟨_, rfl⟩, ?_⟩ | refine ⟨fun _ => ?_, fun h => absurd h (by decide)⟩ | refine ⟨fun h => absurd h (by decide), fun _ => ?_⟩)
      refine mg_cn (c156y d hT hf) (by omega) ?_
      repeat (first | refine ⟨_, mg_Fs rfl rfl, ?_⟩ | refine ⟨Or.inl rfl, ?_⟩ | refine ⟨Or.inr ⟨_, rfl⟩, ?_⟩ | refine ⟨fun _ => ?_, fun h => absurd h (by decide)⟩ | refine ⟨fun h => absurd h (by decide), fun _ => ?_⟩)
      refine mg_cx (c156x d hT hg) (by omega) ?_
      exact cA_x hT (by decide) rfl
    | some j =>
      obtain ⟨rfl, hj⟩ := vi_s hg
      rw [qF_y hg]
      have ef : a_ff (fun k => a_at (a_op 5 (aT (sA S) i) (aT (sA S) j)) k) (2 ^ aV (sA S)) = a_ff (fun k => a_at (aT (sA S) i) k && !a_at (aT (sA S) j) k) (2 ^ aV (sA S)) := a_ff_c fun k hk => a_at_op5 _ _ k (by omega)
      refine mg_me [] 60 my_127 ms_127 (Nat.le_of_ble_eq_true rfl) ?_
      repeat (first | refine ⟨_, mg_Fs rfl rfl, ?_⟩ | refine ⟨Or.inl rfl, ?_⟩ | refine ⟨Or.inr ⟨_, rfl⟩, ?_⟩ | refine ⟨fun _ => ?_, fun h => absurd h (by decide)⟩ | refine ⟨fun h => absurd h (by decide), fun _ => ?_⟩)
      refine mg_cn (c156y d hT hf) (by omega) ?_
      repeat (first | refine ⟨_, mg_Fs rfl rfl, ?_⟩ | refine ⟨Or.inl rfl, ?_⟩ | refine ⟨Or.inr ⟨_, rfl⟩, ?_⟩ | refine ⟨fun _ => ?_, fun h => absurd h (by decide)⟩ | refine ⟨fun h => absurd h (by decide), fun _ => ?_⟩)
      refine mg_cn (c156y d hT hg) (by omega) ?_
      repeat (first | refine ⟨_, mg_Fs rfl rfl, ?_⟩ | refine ⟨Or.inl rfl, ?_⟩ | refine ⟨Or.inr ⟨_, rfl⟩, ?_⟩ | refine ⟨fun _ => ?_, fun h => absurd h (by decide)⟩ | refine ⟨fun h => absurd h (by decide), fun _ => ?_⟩)
      refine mg_m_mono (c82A d hT 5 hi hj) (by omega) ?_
      rintro o q G1 ⟨rfl, rfl, hT1, hr1, hF1⟩
      have k1 := c73m (scr := scr) (t := t) d hT1 hr1
      rw [ef] at k1
      repeat (first | refine ⟨_, mg_Fs rfl rfl, ?_⟩ | refine ⟨Or.inl rfl, ?_⟩ | refine ⟨Or.inr ⟨_, rfl⟩, ?_⟩ | refine ⟨fun _ => ?_, fun h => absurd h (by decide)⟩ | refine ⟨fun h => absurd h (by decide), fun _ => ?_⟩)
      refine mg_cv (k1) (by omega) ?_
      cases hm : a_ff (fun k => a_at (aT (sA S) i) k && !a_at (aT (sA S) j) k) (2 ^ aV (sA S)) with
      | none => exact ⟨fun h => absurd rfl h, fun _ => ⟨Or.inr rfl, cA_v hT1 (fr32 hF1) rfl⟩⟩
      | some k =>
        have hk : k < 2 ^ aV (sA S) := by
          rcases a_ff_is (fun k => a_at (aT (sA S) i) k && !a_at (aT (sA S) j) k) (2 ^ aV (sA S)) with ⟨c, h1, h2, -, -⟩ | ⟨h1, -⟩
          · rw [h2] at hm
            have := Option.some.inj hm
            omega
          · rw [h1] at hm
            cases hm
        exact ⟨fun _ => ⟨Or.inr rfl, cA_v hT1 (fr32 hF1) rfl⟩, fun h => absurd h (mg_n1 (by omega))⟩
theorem c128 (d : Nat) (hT : cT G S) (f g : Int32) : mg_m (mg_KC scr t) (d + 20) 128 [.ref 0, .int f, .int g] G (cA G (ex1 xI) S (q288 (sA S) f g)) := by
  have hp := mg_p256 (n := aV (sA S)) (by have := hT.v8; omega)
  unfold q288
  cases hf : vi f (aF (sA S)) with
  | none =>
    rw [qF_x hf]
    refine mg_me [] 60 my_128 ms_128 (Nat.le_of_ble_eq_true rfl) ?_
    repeat (first | refine ⟨_, mg_Fs rfl rfl, ?_⟩ | refine ⟨Or.inl rfl, ?_⟩ | refine ⟨Or.inr ⟨_, rfl⟩, ?_⟩ | refine ⟨fun _ => ?_, fun h => absurd h (by decide)⟩ | refine ⟨fun h => absurd h (by decide), fun _ => ?_⟩)
    refine mg_cx (c156x d hT hf) (by omega) ?_
    exact cA_x hT (by decide) rfl
  | some i =>
    obtain ⟨rfl, hi⟩ := vi_s hf
    rw [qF_y hf]
    cases hg : vi g (aF (sA S)) with
    | none =>
      rw [qF_x hg]
      refine mg_me [] 60 my_128 ms_128 (Nat.le_of_ble_eq_true rfl) ?_
      repeat (first | refine ⟨_, mg_Fs rfl rfl, ?_⟩ | refine ⟨Or.inl rfl, ?_⟩ | refine ⟨Or.inr ⟨_, rfl⟩, ?_⟩ | refine ⟨fun _ => ?_, fun h => absurd h (by decide)⟩ | refine ⟨fun h => absurd h (by decide), fun _ => ?_⟩)
      refine mg_cn (c156y d hT hf) (by omega) ?_
      repeat (first | refine ⟨_, mg_Fs rfl rfl, ?_⟩ | refine ⟨Or.inl rfl, ?_⟩ | refine ⟨Or.inr ⟨_, rfl⟩, ?_⟩ | refine ⟨fun _ => ?_, fun h => absurd h (by decide)⟩ | refine ⟨fun h => absurd h (by decide), fun _ => ?_⟩)
      refine mg_cx (c156x d hT hg) (by omega) ?_
      exact cA_x hT (by decide) rfl
    | some j =>
      obtain ⟨rfl, hj⟩ := vi_s hg
      rw [qF_y hg]
      have ef : a_ff (fun k => a_at (a_op 2 (aT (sA S) i) (aT (sA S) j)) k) (2 ^ aV (sA S)) = a_ff (fun k => a_at (aT (sA S) i) k != a_at (aT (sA S) j) k) (2 ^ aV (sA S)) := a_ff_c fun k hk => a_at_op2 _ _ k (by omega)
      refine mg_me [] 60 my_128 ms_128 (Nat.le_of_ble_eq_true rfl) ?_
      repeat (first | refine ⟨_, mg_Fs rfl rfl, ?_⟩ | refine ⟨Or.inl rfl, ?_⟩ | refine ⟨Or.inr ⟨_, rfl⟩, ?_⟩ | refine ⟨fun _ => ?_, fun h => absurd h (by decide)⟩ | refine ⟨fun h => absurd h (by decide), fun _ => ?_⟩)
      refine mg_cn (c156y d hT hf) (by omega) ?_
      repeat (first | refine ⟨_, mg_Fs rfl rfl, ?_⟩ | refine ⟨Or.inl rfl, ?_⟩ | refine ⟨Or.inr ⟨_, rfl⟩, ?_⟩ | refine ⟨fun _ => ?_, fun h => absurd h (by decide)⟩ | refine ⟨fun h => absurd h (by decide), fun _ => ?_⟩)
      refine mg_cn (c156y d hT hg) (by omega) ?_
      repeat (first | refine ⟨_, mg_Fs rfl rfl, ?_⟩ | refine ⟨Or.inl rfl, ?_⟩ | refine ⟨Or.inr ⟨_, rfl⟩, ?_⟩ | refine ⟨fun _ => ?_, fun h => absurd h (by decide)⟩ | refine ⟨fun h => absurd h (by decide), fun _ => ?_⟩)
      refine mg_m_mono (c82A d hT 2 hi hj) (by omega) ?_
      rintro o q G1 ⟨rfl, rfl, hT1, hr1, hF1⟩
      have k1 := c73m (scr := scr) (t := t) d hT1 hr1
      rw [ef] at k1
      repeat (first | refine ⟨_, mg_Fs rfl rfl, ?_⟩ | refine ⟨Or.inl rfl, ?_⟩ | refine ⟨Or.inr ⟨_, rfl⟩, ?_⟩ | refine ⟨fun _ => ?_, fun h => absurd h (by decide)⟩ | refine ⟨fun h => absurd h (by decide), fun _ => ?_⟩)
      refine mg_cv (k1) (by omega) ?_
      exact ⟨Or.inl rfl, cA_v hT1 (fr32 hF1) rfl⟩
theorem c129 (d : Nat) (hT : cT G S) (f : Int32) : mg_m (mg_KC scr t) (d + 20) 129 [.ref 0, .int f] G (cA G (ex1 xI) S (q289 (sA S) f)) := by
  have h12 := hT.f12
  unfold q289
  cases hf : vi f (aF (sA S)) with
  | none =>
    rw [qF_x hf]
    refine mg_me [] 60 my_129 ms_129 (Nat.le_of_ble_eq_true rfl) ?_
    repeat (first | refine ⟨_, mg_Fs rfl rfl, ?_⟩ | refine ⟨Or.inl rfl, ?_⟩ | refine ⟨Or.inr ⟨_, rfl⟩, ?_⟩ | refine ⟨fun _ => ?_, fun h => absurd h (by decide)⟩ | refine ⟨fun h => absurd h (by decide), fun _ => ?_⟩)
    refine mg_cx (c156x d hT hf) (by omega) ?_
    exact cA_x hT (by decide) rfl
  | some i =>
    obtain ⟨rfl, hi⟩ := vi_s hf
    rw [qF_y hf]
    refine mg_me [7] 60 my_129 ms_129 (Nat.le_of_ble_eq_true rfl) ?_
    repeat (first | refine ⟨_, mg_Fs rfl rfl, ?_⟩ | refine ⟨Or.inl rfl, ?_⟩ | refine ⟨Or.inr ⟨_, rfl⟩, ?_⟩ | refine ⟨fun _ => ?_, fun h => absurd h (by decide)⟩ | refine ⟨fun h => absurd h (by decide), fun _ => ?_⟩)
    refine mg_cn (c156y d hT hf) (by omega) ?_
    repeat (first | refine ⟨_, mg_Fs rfl rfl, ?_⟩ | refine ⟨Or.inl rfl, ?_⟩ | refine ⟨Or.inr ⟨_, rfl⟩, ?_⟩ | refine ⟨fun _ => ?_, fun h => absurd h (by decide)⟩ | refine ⟨fun h => absurd h (by decide), fun _ => ?_⟩)
    refine mg_loop (aF (sA S)) (fun k L G' => L = [some (.ref 0), some (.int (Int32.ofNat i)), some (.int (Int32.ofNat k))] ∧ G' = G ∧ ∀ j, j < k → (fun g => g != i && decide (aT (sA S) i = aT (sA S) g)) j = false) ?_ ?_ _ _ ⟨rfl, rfl, fun j h => absurd h (Nat.not_lt_zero j)⟩
    · rintro k L G' hk ⟨rfl, rfl, hno⟩ ih
      have no : (fun g => g != i && decide (aT (sA S) i = aT (sA S) g)) k = false → mg_wp (mg_KC scr t) mc_129 (d + 19) 7 [some (.ref 0), some (.int (Int32.ofNat i)), some (.int (Int32.ofNat k + Int32.ofInt 1))] [] G' (cA G' (ex1 xI) S (0, a_oi (a_ff (fun g => g != i && decide (aT (sA S) i = aT (sA S) g)) (aF (sA S))))) := fun hn => ih _ _ ⟨by rw [mg_inc k], rfl, fun j hj => by
        by_cases e : j = k
        · rw [e]; exact hn
        · exact hno j (by omega)⟩
      refine mg_go [7] 60 7 ms_129 ?_
      refine ⟨_, mg_Fs rfl rfl, _, mg_Fe hT.1.2.1 rfl rfl, fun h => absurd h (mg_nle hk (by omega)), fun _ => ⟨fun h => ?_, fun h => ?_⟩⟩
      · have h := (mg_eqN (by omega) (by omega)).mp h
        exact no (by rw [h]; show (i != i && _) = false; simp)
      · have h : k ≠ i := fun q => h (by rw [q])
        repeat (first | refine ⟨_, mg_Fs rfl rfl, ?_⟩ | refine ⟨Or.inl rfl, ?_⟩ | refine ⟨Or.inr ⟨_, rfl⟩, ?_⟩ | refine ⟨fun _ => ?_, fun h => absurd h (by decide)⟩ | refine ⟨fun h => absurd h (by decide), fun _ => ?_⟩)
        refine mg_cv (c88A d hT hi hk) (by omega) ?_
        by_cases e : aT (sA S) i = aT (sA S) k
        · rw [if_pos e]
          refine ⟨fun q => absurd q (by decide), fun _ => ⟨Or.inl rfl, cA_v hT (mg_fr.rf _ _) ?_⟩⟩
          rw [a_ff_some hk (show (k != i && decide (aT (sA S) i = aT (sA S) k)) = true by rw [decide_eq_true e]; simpa using h) hno]
          rfl
        · rw [if_neg e]
          exact ⟨fun _ => no (by show (k != i && decide (aT (sA S) i = aT (sA S) k)) = false; rw [decide_eq_false e, Bool.and_false]), fun q => absurd rfl q⟩
    · rintro L G' ⟨rfl, rfl, hno⟩
      refine mg_go [] 60 7 ms_129 ?_
      refine ⟨_, mg_Fs rfl rfl, _, mg_Fe hT.1.2.1 rfl rfl, fun _ => ⟨Or.inl rfl, cA_v hT (mg_fr.rf _ _) ?_⟩, fun h => absurd h (Int32.not_lt.mpr (Int32.le_refl _))⟩
      rw [a_ff_none hno]
      rfl
end KC
