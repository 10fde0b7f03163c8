section KC
variable {scr : Nat × (Nat → Int32)} {t : List mg_S} {G : mg_G} {A : a_A} {l : List Nat} {p : Nat}
theorem c49n (d : Nat) (hk : ck G l p) (hp : p ≤ l.length) (h : k_nm l p = false) : mg_m (mg_KC scr t) (d + 2) 49 [.ref 3] G (fun o q G' => o = .inr xA ∧ q = 1 ∧ G' = yX G 1 l p) := by
  have k1 := c98 (scr := scr) (t := t) d hk hp
  rw [h] at k1
  refine mg_me [] 60 my_49 ms_49 (Nat.le_of_ble_eq_true rfl) ?_
  repeat (first | refine ⟨_, mg_Fs rfl rfl, ?_⟩ | refine ⟨Or.inl rfl, ?_⟩ | refine ⟨Or.inr ⟨_, rfl⟩, ?_⟩ | refine ⟨fun _ => ?_, fun h => absurd h (by decide)⟩ | refine ⟨fun h => absurd h (by decide), fun _ => ?_⟩)
  refine mg_cv (k1) (by omega) ?_
  refine ⟨fun q => absurd rfl q, fun _ => ?_⟩
  repeat (first | refine ⟨_, mg_Fs rfl rfl, ?_⟩ | refine ⟨Or.inl rfl, ?_⟩ | refine ⟨Or.inr ⟨_, rfl⟩, ?_⟩ | refine ⟨fun _ => ?_, fun h => absurd h (by decide)⟩ | refine ⟨fun h => absurd h (by decide), fun _ => ?_⟩)
  refine mg_m_mono (c39x d hk 1) (by omega) ?_
  rintro o q G1 ⟨rfl, rfl, rfl⟩
  exact ⟨rfl, rfl, rfl⟩
theorem c49x (d : Nat) (hS : cS G 4 A) (hW : aW A) (hk : ck G l p) (hp : p ≤ l.length) (h : k_nm l p = true) (hv : k_f A l p = none) : mg_m (mg_KC scr t) (d + 2) 49 [.ref 3] G (fun o q G' => o = .inr xA ∧ q = 1 ∧ G' = yX G 3 l p) := by
  have h1 := k_nm_1 h
  have k1 := c98 (scr := scr) (t := t) d hk hp
  rw [h] at k1
  have k2 := c68A (scr := scr) (t := t) d hS hW hp h1
  rw [hv] at k2
  refine mg_me [] 60 my_49 ms_49 (Nat.le_of_ble_eq_true rfl) ?_
  repeat (first | refine ⟨_, mg_Fs rfl rfl, ?_⟩ | refine ⟨Or.inl rfl, ?_⟩ | refine ⟨Or.inr ⟨_, rfl⟩, ?_⟩ | refine ⟨fun _ => ?_, fun h => absurd h (by decide)⟩ | refine ⟨fun h => absurd h (by decide), fun _ => ?_⟩)
  refine mg_cv (k1) (by omega) ?_
  refine ⟨fun _ => ?_, fun q => absurd q (by decide)⟩
  repeat (first | refine ⟨_, mg_Fs rfl rfl, ?_⟩ | refine ⟨Or.inl rfl, ?_⟩ | refine ⟨Or.inr ⟨_, rfl⟩, ?_⟩ | refine ⟨fun _ => ?_, fun h => absurd h (by decide)⟩ | refine ⟨fun h => absurd h (by decide), fun _ => ?_⟩)
  refine mg_cn (c39y d 1) (by omega) ?_
  repeat (first | refine ⟨_, mg_Fs rfl rfl, ?_⟩ | refine ⟨Or.inl rfl, ?_⟩ | refine ⟨Or.inr ⟨_, rfl⟩, ?_⟩ | refine ⟨fun _ => ?_, fun h => absurd h (by decide)⟩ | refine ⟨fun h => absurd h (by decide), fun _ => ?_⟩)
  refine ⟨_, mg_Fe (hk.2.2.2.1 h1) rfl rfl, ?_⟩
  repeat (first | refine ⟨_, mg_Fs rfl rfl, ?_⟩ | refine ⟨Or.inl rfl, ?_⟩ | refine ⟨Or.inr ⟨_, rfl⟩, ?_⟩ | refine ⟨fun _ => ?_, fun h => absurd h (by decide)⟩ | refine ⟨fun h => absurd h (by decide), fun _ => ?_⟩)
  refine mg_cv (k2) (by omega) ?_
  refine ⟨fun q => absurd rfl q, fun _ => ?_⟩
  repeat (first | refine ⟨_, mg_Fs rfl rfl, ?_⟩ | refine ⟨Or.inl rfl, ?_⟩ | refine ⟨Or.inr ⟨_, rfl⟩, ?_⟩ | refine ⟨fun _ => ?_, fun h => absurd h (by decide)⟩ | refine ⟨fun h => absurd h (by decide), fun _ => ?_⟩)
  refine mg_m_mono (c39x d hk 3) (by omega) ?_
  rintro o q G1 ⟨rfl, rfl, rfl⟩
  exact ⟨rfl, rfl, rfl⟩
theorem c49y (d : Nat) (hI : cIn G l) (hB : ckB G l) (hS : cS G 4 A) (hW : aW A) (hk : ck G l p) (hp : p ≤ l.length) (h : k_nm l p = true) {v : Nat} (hv : k_f A l p = some v) : mg_m (mg_KC scr t) (d + 3) 49 [.ref 3] G (fun o q G' => o = .inl (some (.int (Int32.ofNat v))) ∧ q = 0 ∧ ckB G' l ∧ ck G' l (k_E l p) ∧ cTf G G') := by
  have h1 := k_nm_1 h
  have h12 := hW.2.2.1
  have hv2 : v < aF A := k_at_lt hv
  have k1 := c98 (scr := scr) (t := t) d hk hp
  rw [h] at k1
  have k2 := c68A (scr := scr) (t := t) d hS hW hp h1
  rw [hv] at k2
  refine mg_me [] 60 my_49 ms_49 (Nat.le_of_ble_eq_true rfl) ?_
  repeat (first | refine ⟨_, mg_Fs rfl rfl, ?_⟩ | refine ⟨Or.inl rfl, ?_⟩ | refine ⟨Or.inr ⟨_, rfl⟩, ?_⟩ | refine ⟨fun _ => ?_, fun h => absurd h (by decide)⟩ | refine ⟨fun h => absurd h (by decide), fun _ => ?_⟩)
  refine mg_cv (k1) (by omega) ?_
  refine ⟨fun _ => ?_, fun q => absurd q (by decide)⟩
  repeat (first | refine ⟨_, mg_Fs rfl rfl, ?_⟩ | refine ⟨Or.inl rfl, ?_⟩ | refine ⟨Or.inr ⟨_, rfl⟩, ?_⟩ | refine ⟨fun _ => ?_, fun h => absurd h (by decide)⟩ | refine ⟨fun h => absurd h (by decide), fun _ => ?_⟩)
  refine mg_cn (c39y d 1) (by omega) ?_
  repeat (first | refine ⟨_, mg_Fs rfl rfl, ?_⟩ | refine ⟨Or.inl rfl, ?_⟩ | refine ⟨Or.inr ⟨_, rfl⟩, ?_⟩ | refine ⟨fun _ => ?_, fun h => absurd h (by decide)⟩ | refine ⟨fun h => absurd h (by decide), fun _ => ?_⟩)
  refine ⟨_, mg_Fe (hk.2.2.2.1 h1) rfl rfl, ?_⟩
  repeat (first | refine ⟨_, mg_Fs rfl rfl, ?_⟩ | refine ⟨Or.inl rfl, ?_⟩ | refine ⟨Or.inr ⟨_, rfl⟩, ?_⟩ | refine ⟨fun _ => ?_, fun h => absurd h (by decide)⟩ | refine ⟨fun h => absurd h (by decide), fun _ => ?_⟩)
  refine mg_cv (k2) (by omega) ?_
  refine ⟨fun _ => ?_, fun q => absurd q (mg_n1 (by omega))⟩
  repeat (first | refine ⟨_, mg_Fs rfl rfl, ?_⟩ | refine ⟨Or.inl rfl, ?_⟩ | refine ⟨Or.inr ⟨_, rfl⟩, ?_⟩ | refine ⟨fun _ => ?_, fun h => absurd h (by decide)⟩ | refine ⟨fun h => absurd h (by decide), fun _ => ?_⟩)
  refine mg_cn (c39y d 3) (by omega) ?_
  repeat (first | refine ⟨_, mg_Fs rfl rfl, ?_⟩ | refine ⟨Or.inl rfl, ?_⟩ | refine ⟨Or.inr ⟨_, rfl⟩, ?_⟩ | refine ⟨fun _ => ?_, fun h => absurd h (by decide)⟩ | refine ⟨fun h => absurd h (by decide), fun _ => ?_⟩)
  refine mg_m_mono (c93 d hI (k_E_le hp) hB hk.1) (by omega) ?_
  rintro o q G1 ⟨rfl, rfl, w1, w2, w3⟩
  exact ⟨Or.inl rfl, rfl, rfl, w1, w2, w3⟩
theorem c47n (d : Nat) (hk : ck G l p) (h : k_K l p ≠ 2) (m : Int32) : mg_m (mg_KC scr t) (d + 2) 47 [.ref 3, .int m] G (fun o q G' => o = .inr xA ∧ q = 1 ∧ G' = yX G 1 l p) := by
  have hK4 := k_K4 l p
  refine mg_me [] 60 my_47 ms_47 (Nat.le_of_ble_eq_true rfl) ?_
  repeat (first | refine ⟨_, mg_Fs rfl rfl, ?_⟩ | refine ⟨Or.inl rfl, ?_⟩ | refine ⟨Or.inr ⟨_, rfl⟩, ?_⟩ | refine ⟨fun _ => ?_, fun h => absurd h (by decide)⟩ | refine ⟨fun h => absurd h (by decide), fun _ => ?_⟩)
  refine ⟨_, mg_Fe hk.2.1 rfl rfl, fun q => absurd ((mg_eqN (b := 2) (by omega) (by decide)).mp q) h, fun _ => ?_⟩
  repeat (first | refine ⟨_, mg_Fs rfl rfl, ?_⟩ | refine ⟨Or.inl rfl, ?_⟩ | refine ⟨Or.inr ⟨_, rfl⟩, ?_⟩ | refine ⟨fun _ => ?_, fun h => absurd h (by decide)⟩ | refine ⟨fun h => absurd h (by decide), fun _ => ?_⟩)
  refine mg_m_mono (c39x d hk 1) (by omega) ?_
  rintro o q G1 ⟨rfl, rfl, rfl⟩
  exact ⟨rfl, rfl, rfl⟩
theorem c47x (d : Nat) (hk : ck G l p) (hp : p ≤ l.length) (h : k_K l p = 2) {m : Nat} (hm : m < 1000) (hN : m < k_N l p) : mg_m (mg_KC scr t) (d + 2) 47 [.ref 3, .int (Int32.ofNat m)] G (fun o q G' => o = .inr xA ∧ q = 1 ∧ G' = yX G 2 l p) := by
  have hN9 := k_N_lt hp h
  refine mg_me [] 60 my_47 ms_47 (Nat.le_of_ble_eq_true rfl) ?_
  repeat (first | refine ⟨_, mg_Fs rfl rfl, ?_⟩ | refine ⟨Or.inl rfl, ?_⟩ | refine ⟨Or.inr ⟨_, rfl⟩, ?_⟩ | refine ⟨fun _ => ?_, fun h => absurd h (by decide)⟩ | refine ⟨fun h => absurd h (by decide), fun _ => ?_⟩)
  refine ⟨_, mg_Fe hk.2.1 rfl rfl, fun _ => ?_, fun q => absurd (by rw [h]; rfl) q⟩
  repeat (first | refine ⟨_, mg_Fs rfl rfl, ?_⟩ | refine ⟨Or.inl rfl, ?_⟩ | refine ⟨Or.inr ⟨_, rfl⟩, ?_⟩ | refine ⟨fun _ => ?_, fun h => absurd h (by decide)⟩ | refine ⟨fun h => absurd h (by decide), fun _ => ?_⟩)
  refine mg_cn (c39y d 1) (by omega) ?_
  repeat (first | refine ⟨_, mg_Fs rfl rfl, ?_⟩ | refine ⟨Or.inl rfl, ?_⟩ | refine ⟨Or.inr ⟨_, rfl⟩, ?_⟩ | refine ⟨fun _ => ?_, fun h => absurd h (by decide)⟩ | refine ⟨fun h => absurd h (by decide), fun _ => ?_⟩)
  refine ⟨_, mg_Fe (hk.2.2.2.2.1 h) rfl rfl, fun q => absurd q (mg_nle hN (by omega)), fun _ => ?_⟩
  repeat (first | refine ⟨_, mg_Fs rfl rfl, ?_⟩ | refine ⟨Or.inl rfl, ?_⟩ | refine ⟨Or.inr ⟨_, rfl⟩, ?_⟩ | refine ⟨fun _ => ?_, fun h => absurd h (by decide)⟩ | refine ⟨fun h => absurd h (by decide), fun _ => ?_⟩)
  refine mg_m_mono (c39x d hk 2) (by omega) ?_
  rintro o q G1 ⟨rfl, rfl, rfl⟩
  exact ⟨rfl, rfl, rfl⟩
theorem c47y (d : Nat) (hI : cIn G l) (hB : ckB G l) (hk : ck G l p) (hp : p ≤ l.length) (h : k_K l p = 2) {m : Nat} (hm : m < 1000) (hN : k_N l p ≤ m) : mg_m (mg_KC scr t) (d + 3) 47 [.ref 3, .int (Int32.ofNat m)] G (fun o q G' => o = .inl (some (.int (Int32.ofNat (k_N l p)))) ∧ q = 0 ∧ ckB G' l ∧ ck G' l (k_E l p) ∧ cTf G G') := by
  refine mg_me [] 60 my_47 ms_47 (Nat.le_of_ble_eq_true rfl) ?_
  repeat (first | refine ⟨_, mg_Fs rfl rfl, ?_⟩ | refine ⟨Or.inl rfl, ?_⟩ | refine ⟨Or.inr ⟨_, rfl⟩, ?_⟩ | refine ⟨fun _ => ?_, fun h => absurd h (by decide)⟩ | refine ⟨fun h => absurd h (by decide), fun _ => ?_⟩)
  refine ⟨_, mg_Fe hk.2.1 rfl rfl, fun _ => ?_, fun q => absurd (by rw [h]; rfl) q⟩
  repeat (first | refine ⟨_, mg_Fs rfl rfl, ?_⟩ | refine ⟨Or.inl rfl, ?_⟩ | refine ⟨Or.inr ⟨_, rfl⟩, ?_⟩ | refine ⟨fun _ => ?_, fun h => absurd h (by decide)⟩ | refine ⟨fun h => absurd h (by decide), fun _ => ?_⟩)
  refine mg_cn (c39y d 1) (by omega) ?_
  repeat (first | refine ⟨_, mg_Fs rfl rfl, ?_⟩ | refine ⟨Or.inl rfl, ?_⟩ | refine ⟨Or.inr ⟨_, rfl⟩, ?_⟩ | refine ⟨fun _ => ?_, fun h => absurd h (by decide)⟩ | refine ⟨fun h => absurd h (by decide), fun _ => ?_⟩)
  refine ⟨_, mg_Fe (hk.2.2.2.2.1 h) rfl rfl, fun _ => ?_, fun q => absurd q (mg_nlt hN (by omega))⟩
  repeat (first | refine ⟨_, mg_Fs rfl rfl, ?_⟩ | refine ⟨Or.inl rfl, ?_⟩ | refine ⟨Or.inr ⟨_, rfl⟩, ?_⟩ | refine ⟨fun _ => ?_, fun h => absurd h (by decide)⟩ | refine ⟨fun h => absurd h (by decide), fun _ => ?_⟩)
  refine mg_cn (c39y d 2) (by omega) ?_
  repeat (first | refine ⟨_, mg_Fs rfl rfl, ?_⟩ | refine ⟨Or.inl rfl, ?_⟩ | refine ⟨Or.inr ⟨_, rfl⟩, ?_⟩ | refine ⟨fun _ => ?_, fun h => absurd h (by decide)⟩ | refine ⟨fun h => absurd h (by decide), fun _ => ?_⟩)
  refine ⟨_, mg_Fe (hk.2.2.2.2.1 h) rfl rfl, ?_⟩
  repeat (first | refine ⟨_, mg_Fs rfl rfl, ?_⟩ | refine ⟨Or.inl rfl, ?_⟩ | refine ⟨Or.inr ⟨_, rfl⟩, ?_⟩ | refine ⟨fun _ => ?_, fun h => absurd h (by decide)⟩ | refine ⟨fun h => absurd h (by decide), fun _ => ?_⟩)
  refine mg_m_mono (c93 d hI (k_E_le hp) hB hk.1) (by omega) ?_
  rintro o q G1 ⟨rfl, rfl, w1, w2, w3⟩
  exact ⟨Or.inl rfl, rfl, rfl, w1, w2, w3⟩
end KC
section RM
variable {scr : Nat × (Nat → Int32)} {t : List mg_S} {G : mg_G} {A : a_A} {l : List Nat} {p : Nat}
end RM
