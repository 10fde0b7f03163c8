section KC
variable {scr : Nat × (Nat → Int32)} {t : List mg_S} {G : mg_G} {S : a_S}
theorem c115 (d : Nat) (hT : cT G S) (f x : Int32) : mg_m (mg_KC scr t) (d + 20) 115 [.ref 0, .int f, .int x] G (cA G (ex2 xI xA) S (q268 (sA S) f x)) := by
  have h8 := hT.v8
  have h12 := hT.f12
  have h4 := hT.w4
  have hp := mg_p256 (n := aV (sA S)) (by omega)
  unfold q268
  cases hf : vi f (aF (sA S)) with
  | none =>
    rw [qF_x hf]
    refine mg_me [] 60 my_115 ms_115 (Nat.le_of_ble_eq_true rfl) ?_
    repeat (first | refine ⟨_, mg_Fs rfl rfl, ?_⟩ | refine ⟨Or.inl rfl, ?_⟩ | refine ⟨Or.inr ⟨_, rfl⟩, ?_⟩ | refine ⟨fun _ => ?_, fun h => absurd h (by decide)⟩ | refine ⟨fun h => absurd h (by decide), fun _ => ?_⟩)
    refine mg_cx (c156x d hT hf) (by omega) ?_
    exact cA_x hT (by decide) rfl
  | some i =>
    obtain ⟨rfl, hi⟩ := vi_s hf
    rw [qF_y hf]
    cases hx : vi x (2 ^ aV (sA S)) with
    | none =>
      have hn := vi_n hx (by omega)
      refine mg_me [] 60 my_115 ms_115 (Nat.le_of_ble_eq_true rfl) ?_
      repeat (first | refine ⟨_, mg_Fs rfl rfl, ?_⟩ | refine ⟨Or.inl rfl, ?_⟩ | refine ⟨Or.inr ⟨_, rfl⟩, ?_⟩ | refine ⟨fun _ => ?_, fun h => absurd h (by decide)⟩ | refine ⟨fun h => absurd h (by decide), fun _ => ?_⟩)
      refine mg_cn (c156y d hT hf) (by omega) ?_
      refine ⟨fun _ => ⟨Nat.le_of_ble_eq_true rfl, cA_x hT (by decide) rfl⟩, fun h0 => ?_⟩
      repeat (first | refine ⟨_, mg_Fs rfl rfl, ?_⟩ | refine ⟨Or.inl rfl, ?_⟩ | refine ⟨Or.inr ⟨_, rfl⟩, ?_⟩ | refine ⟨fun _ => ?_, fun h => absurd h (by decide)⟩ | refine ⟨fun h => absurd h (by decide), fun _ => ?_⟩)
      refine mg_cv (c71 d kc_s1 (by omega) hT.1.2.2.1) (by omega) ?_
      exact ⟨fun h => (hn.elim (fun q => absurd q (Int32.not_lt.mpr h0)) (fun q => absurd h (Int32.not_lt.mpr q))), fun _ => ⟨Nat.le_of_ble_eq_true rfl, cA_x hT (by decide) rfl⟩⟩
    | some k =>
      obtain ⟨rfl, hk⟩ := vi_s hx
      refine mg_me [] 60 my_115 ms_115 (Nat.le_of_ble_eq_true rfl) ?_
      repeat (first | refine ⟨_, mg_Fs rfl rfl, ?_⟩ | refine ⟨Or.inl rfl, ?_⟩ | refine ⟨Or.inr ⟨_, rfl⟩, ?_⟩ | refine ⟨fun _ => ?_, fun h => absurd h (by decide)⟩ | refine ⟨fun h => absurd h (by decide), fun _ => ?_⟩)
      refine mg_cn (c156y d hT hf) (by omega) ?_
      refine ⟨fun h => absurd h (mg_nl0 (by omega)), fun _ => ?_⟩
      repeat (first | refine ⟨_, mg_Fs rfl rfl, ?_⟩ | refine ⟨Or.inl rfl, ?_⟩ | refine ⟨Or.inr ⟨_, rfl⟩, ?_⟩ | refine ⟨fun _ => ?_, fun h => absurd h (by decide)⟩ | refine ⟨fun h => absurd h (by decide), fun _ => ?_⟩)
      refine mg_cv (c71 d kc_s1 (by omega) hT.1.2.2.1) (by omega) ?_
      refine ⟨fun _ => ?_, fun h => absurd h (mg_nle hk (by omega))⟩
      repeat (first | refine ⟨_, mg_Fs rfl rfl, ?_⟩ | refine ⟨Or.inl rfl, ?_⟩ | refine ⟨Or.inr ⟨_, rfl⟩, ?_⟩ | refine ⟨fun _ => ?_, fun h => absurd h (by decide)⟩ | refine ⟨fun h => absurd h (by decide), fun _ => ?_⟩)
      refine mg_cv (c89n d i k kc_s1.T (hT.rw hi) (by omega) ((mg_bnd _ (by omega)).2.2 k (by omega) hk) (by omega)) (by omega) ?_
      exact ⟨Or.inl rfl, cA_v hT (mg_fr.rf _ _) rfl⟩
theorem c126 (d : Nat) (hT : cT G S) (f g : Int32) : mg_m (mg_KC scr t) (d + 20) 126 [.ref 0, .int f, .int g] G (cA G (ex1 xI) S (q286 (sA S) f g)) := by
  unfold q286
  cases hf : vi f (aF (sA S)) with
  | none =>
    rw [qF_x hf]
    refine mg_me [] 60 my_126 ms_126 (Nat.le_of_ble_eq_true rfl) ?_
    repeat (first | refine ⟨_, mg_Fs rfl rfl, ?_⟩ | refine ⟨Or.inl rfl, ?_⟩ | refine ⟨Or.inr ⟨_, rfl⟩, ?_⟩ | refine ⟨fun _ => ?_, fun h => absurd h (by decide)⟩ | refine ⟨fun h => absurd h (by decide), fun _ => ?_⟩)
    refine mg_cx (c156x d hT hf) (by omega) ?_
    exact cA_x hT (by decide) rfl
  | some i =>
    obtain ⟨rfl, hi⟩ := vi_s hf
    rw [qF_y hf]
    cases hg : vi g (aF (sA S)) with
    | none =>
      rw [qF_x hg]
      refine mg_me [] 60 my_126 ms_126 (Nat.le_of_ble_eq_true rfl) ?_
      repeat (first | refine ⟨_, mg_Fs rfl rfl, ?_⟩ | refine ⟨Or.inl rfl, ?_⟩ | refine ⟨Or.inr ⟨_, rfl⟩, ?_⟩ | refine ⟨fun _ => ?_, fun h => absurd h (by decide)⟩ | refine ⟨fun h => absurd h (by decide), fun _ => ?_⟩)
      refine mg_cn (c156y d hT hf) (by omega) ?_
      repeat (first | refine ⟨_, mg_Fs rfl rfl, ?_⟩ | refine ⟨Or.inl rfl, ?_⟩ | refine ⟨Or.inr ⟨_, rfl⟩, ?_⟩ | refine ⟨fun _ => ?_, fun h => absurd h (by decide)⟩ | refine ⟨fun h => absurd h (by decide), fun _ => ?_⟩)
      refine mg_cx (c156x d hT hg) (by omega) ?_
      exact cA_x hT (by decide) rfl
    | some j =>
      obtain ⟨rfl, hj⟩ := vi_s hg
      rw [qF_y hg]
      refine mg_me [] 60 my_126 ms_126 (Nat.le_of_ble_eq_true rfl) ?_
      repeat (first | refine ⟨_, mg_Fs rfl rfl, ?_⟩ | refine ⟨Or.inl rfl, ?_⟩ | refine ⟨Or.inr ⟨_, rfl⟩, ?_⟩ | refine ⟨fun _ => ?_, fun h => absurd h (by decide)⟩ | refine ⟨fun h => absurd h (by decide), fun _ => ?_⟩)
      refine mg_cn (c156y d hT hf) (by omega) ?_
      repeat (first | refine ⟨_, mg_Fs rfl rfl, ?_⟩ | refine ⟨Or.inl rfl, ?_⟩ | refine ⟨Or.inr ⟨_, rfl⟩, ?_⟩ | refine ⟨fun _ => ?_, fun h => absurd h (by decide)⟩ | refine ⟨fun h => absurd h (by decide), fun _ => ?_⟩)
      refine mg_cn (c156y d hT hg) (by omega) ?_
      repeat (first | refine ⟨_, mg_Fs rfl rfl, ?_⟩ | refine ⟨Or.inl rfl, ?_⟩ | refine ⟨Or.inr ⟨_, rfl⟩, ?_⟩ | refine ⟨fun _ => ?_, fun h => absurd h (by decide)⟩ | refine ⟨fun h => absurd h (by decide), fun _ => ?_⟩)
      refine mg_cv (c88A d hT hi hj) (by omega) ?_
      exact ⟨Or.inr (by split <;> rfl), cA_v hT (mg_fr.rf _ _) rfl⟩
end KC
