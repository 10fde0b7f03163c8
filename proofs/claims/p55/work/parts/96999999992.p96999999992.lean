def kz_ok (a : Nat) : Prop := a = 0 ∨ a = 38
theorem kz_len : (k_str 0).length = 45 := by decide
section KZ
variable {K : mg_K} {G : mg_G}
theorem jz333 (d : Nat) {a : Nat} (ha : kz_ok a) : mg_m K (d + 1) 333 [.ref (2000000 + a)] G (mg_v (.int 0) G) := by
  rcases ha with rfl | rfl <;> (
    refine mg_me [] 20 my_333 ms_333 (Nat.le_of_ble_eq_true rfl) ?_
    repeat (first | refine ⟨_, mg_Fs rfl rfl, ?_⟩ | refine ⟨Or.inl rfl, ?_⟩ | refine ⟨Or.inr ⟨_, rfl⟩, ?_⟩ | refine ⟨fun _ => ?_, fun h => absurd h (by decide)⟩ | refine ⟨fun h => absurd h (by decide), fun _ => ?_⟩)
    exact ⟨Or.inr rfl, rfl, rfl, rfl⟩)
theorem jz334 (d : Nat) {a : Nat} (ha : kz_ok a) : mg_m K (d + 1) 334 [.ref (2000000 + a)] G (mg_v (.int 1) G) := by
  rcases ha with rfl | rfl <;> (
    refine mg_me [] 20 my_334 ms_334 (Nat.le_of_ble_eq_true rfl) ?_
    repeat (first | refine ⟨_, mg_Fs rfl rfl, ?_⟩ | refine ⟨Or.inl rfl, ?_⟩ | refine ⟨Or.inr ⟨_, rfl⟩, ?_⟩ | refine ⟨fun _ => ?_, fun h => absurd h (by decide)⟩ | refine ⟨fun h => absurd h (by decide), fun _ => ?_⟩)
    exact ⟨Or.inr rfl, rfl, rfl, rfl⟩)
theorem jz331 (d : Nat) {a : Nat} (ha : kz_ok a) : mg_m K (d + 2) 331 [.ref (2000000 + a)] G (mg_v (.int (Int32.ofNat (k_str a).length)) G) := by
  have h := jz333 (K := K) (G := G) d ha
  rcases ha with rfl | rfl <;> (
    refine mg_me [] 20 my_331 ms_331 (Nat.le_of_ble_eq_true rfl) ?_
    refine ⟨2, _, _, mg_Ao rfl (by decide), by decide, ?_⟩
    refine ⟨Or.inr rfl, mg_cv h (by omega) ?_⟩
    exact ⟨Or.inl rfl, rfl, rfl, rfl⟩)
theorem jz332 (d : Nat) {a : Nat} (ha : kz_ok a) {i : Nat} (hi : i < (k_str a).length) : mg_m K (d + 4) 332 [.ref (2000000 + a), .int (Int32.ofNat i)] G (mg_v (.int (Int32.ofNat ((k_str a).getD i 0))) G) := by
  have h := jz334 (K := K) (G := G) d ha
  obtain ⟨c, hc⟩ : ∃ c, c = (k_str a).getD i 0 := ⟨_, rfl⟩
  rw [← hc]
  rcases ha with rfl | rfl <;> (
    refine mg_me [] 20 my_332 ms_332 (Nat.le_of_ble_eq_true rfl) ?_
    refine ⟨Or.inr rfl, mg_cv h (by omega) ?_⟩
    repeat (first | refine ⟨_, mg_Fs rfl rfl, ?_⟩ | refine ⟨Or.inl rfl, ?_⟩ | refine ⟨Or.inr ⟨_, rfl⟩, ?_⟩ | refine ⟨fun _ => ?_, fun h => absurd h (by decide)⟩ | refine ⟨fun h => absurd h (by decide), fun _ => ?_⟩)
    refine mg_cv (j336 d (mg_Ao rfl (by decide)) (by decide) hi (c := c) ?_ ?_) (by omega) ?_
    · subst hc
      clear h
      revert i
      decide
    · subst hc
      clear h
      revert i
      decide
    · exact ⟨Or.inr (mg_ch _ (by subst hc; clear h; revert i; decide)), rfl, rfl, rfl⟩)
theorem jzr {a : Nat} (ha : kz_ok a) (r : List Value) : mg_isr K 100 (.ref (2000000 + a) :: r) := by
  rcases ha with rfl | rfl <;> rfl
end KZ
theorem kz_by : ∀ i, i < 45 → (k_str 0).getD i 0 < 256 ∧ (Int32.ofNat ((k_str 0).getD i 0) &&& 255).toNatClampNeg = (k_str 0).getD i 0 := by decide
theorem kz_tk {i : Nat} (hi : i < 45) : (k_str 0).take (i + 1) = (k_str 0).take i ++ [(k_str 0).getD i 0] := by
  rw [List.take_add_one]
  have h : i < (k_str 0).length := kz_len ▸ hi
  rw [List.getD_eq_getElem?_getD, List.getElem?_eq_getElem h]
  rfl
section KC
variable {scr : Nat × (Nat → Int32)} {t : List mg_S} {G : mg_G}
theorem c31s (d : Nat) {G0 : mg_G} : ∀ (n i : Nat) (G : mg_G), i + n = 45 → cIn G ((k_str 0).take i) → mg_fr (fun a => a = 1 ∨ a = 2) G0 G → mg_wp (mg_KC scr t) mc_31 (d + 4) 2 [some (.ref 1), some (.ref 2000000), some (.int (Int32.ofNat i))] [] G (cIQ G0 (k_str 0)) := by
  intro n
  induction n with
  | zero =>
    intro i G hi hI hF
    obtain rfl : i = 45 := by omega
    refine mg_go [] 30 2 ms_31 ?_
    refine ⟨Or.inr (jzr (Or.inl rfl) _), mg_cv (jz331 d (Or.inl rfl)) (by omega) ?_⟩
    refine ⟨fun _ => ?_, fun z => absurd z (by rw [kz_len]; decide)⟩
    exact ⟨rfl, rfl, by rw [List.take_of_length_le (by rw [kz_len]; decide)] at hI; exact hI, hF⟩
  | succ n ih =>
    intro i G hi hI hF
    have hi2 : i < 45 := by omega
    refine mg_go [2] 30 2 ms_31 ?_
    refine ⟨Or.inr (jzr (Or.inl rfl) _), mg_cv (jz331 d (Or.inl rfl)) (by omega) ?_⟩
    refine ⟨fun z => absurd z (by rw [kz_len]; exact mg_nle hi2 (by omega)), fun _ => ?_⟩
    refine ⟨Or.inr (jzr (Or.inl rfl) _), mg_cv (jz332 d (Or.inl rfl) (i := i) (by rw [kz_len]; exact hi2)) (by omega) ?_⟩
    repeat (first | refine ⟨_, mg_Fs rfl rfl, ?_⟩ | refine ⟨Or.inl rfl, ?_⟩ | refine ⟨Or.inr ⟨_, rfl⟩, ?_⟩ | refine ⟨fun _ => ?_, fun h => absurd h (by decide)⟩ | refine ⟨fun h => absurd h (by decide), fun _ => ?_⟩)
    refine mg_m_mono (c33 d hI (by rw [List.length_take, kz_len]; omega) _) (by omega) ?_
    rintro o q G1 ⟨rfl, rfl, w1, w2⟩
    rw [(kz_by i hi2).2, ← kz_tk hi2] at w1
    have e := ih (i + 1) G1 (by omega) w1 (hF.tr w2)
    rw [← mg_inc i] at e
    exact e
theorem c31z (d : Nat) (hI : cIn G []) : mg_m (mg_KC scr t) (d + 5) 31 [.ref 1, .ref 2000000] G (cIQ G (k_str 0)) := by
  refine mg_me [2] 30 my_31 ms_31 (Nat.le_of_ble_eq_true rfl) ?_
  exact c31s d 45 0 G rfl hI (mg_fr.rf _ _)
end KC
