/-- a prefix: not, or a quantifier of a variable -/
abbrev yPx : Type := Option (Bool × Nat)
def yPn (x : yPx) : Nat := match x with
  | none => 16
  | some (true, v) => v + 8
  | some (false, v) => v
def yAp (x : yPx) (T : a_T) : a_T := match x with
  | none => a_not T
  | some (b, v) => a_qu b v T
section KC
variable {scr : Nat × (Nat → Int32)} {t : List mg_S} {G : mg_G} {A : a_A} {l : List Nat} {p : Nat}
theorem c56a (d : Nat) (hI : cIn G l) (hk : ck G l p) (h : k_is l p 40 = false) (o : Int32) : mg_m (mg_KC scr t) (d + 2) 56 [.ref 3, .int o] G (fun o q G' => o = .inr xA ∧ q = 1 ∧ G' = yX G 1 l p) := by
  have k1 := c94 (scr := scr) (t := t) d hI hk (c := 40) (by decide)
  rw [h] at k1
  refine mg_me [] 60 my_56 ms_56 (Nat.le_of_ble_eq_true rfl) ?_
  repeat (first | refine ⟨_, mg_Fs rfl rfl, ?_⟩ | refine ⟨Or.inl rfl, ?_⟩ | refine ⟨Or.inr ⟨_, rfl⟩, ?_⟩ | refine ⟨fun _ => ?_, fun h => absurd h (by decide)⟩ | refine ⟨fun h => absurd h (by decide), fun _ => ?_⟩)
  refine mg_cv (k1) (by omega) ?_
  refine ⟨fun q => absurd rfl q, fun _ => ?_⟩
  repeat (first | refine ⟨_, mg_Fs rfl rfl, ?_⟩ | refine ⟨Or.inl rfl, ?_⟩ | refine ⟨Or.inr ⟨_, rfl⟩, ?_⟩ | refine ⟨fun _ => ?_, fun h => absurd h (by decide)⟩ | refine ⟨fun h => absurd h (by decide), fun _ => ?_⟩)
  refine mg_m_mono (c39x d hk 1) (by omega) ?_
  rintro o q G1 ⟨rfl, rfl, rfl⟩
  exact ⟨rfl, rfl, rfl⟩
theorem c56b (d : Nat) (hI : cIn G l) (hk : ck G l p) (h : k_is l p 40 = true) : mg_m (mg_KC scr t) (d + 2) 56 [.ref 3, .int (Int32.ofNat 20)] G (fun o q G' => o = .inr xA ∧ q = 1 ∧ G' = yX G 5 l p) := by
  have k1 := c94 (scr := scr) (t := t) d hI hk (c := 40) (by decide)
  rw [h] at k1
  refine mg_me [] 60 my_56 ms_56 (Nat.le_of_ble_eq_true rfl) ?_
  repeat (first | refine ⟨_, mg_Fs rfl rfl, ?_⟩ | refine ⟨Or.inl rfl, ?_⟩ | refine ⟨Or.inr ⟨_, rfl⟩, ?_⟩ | refine ⟨fun _ => ?_, fun h => absurd h (by decide)⟩ | refine ⟨fun h => absurd h (by decide), fun _ => ?_⟩)
  refine mg_cv (k1) (by omega) ?_
  refine ⟨fun _ => ?_, fun q => absurd q (by decide)⟩
  repeat (first | refine ⟨_, mg_Fs rfl rfl, ?_⟩ | refine ⟨Or.inl rfl, ?_⟩ | refine ⟨Or.inr ⟨_, rfl⟩, ?_⟩ | refine ⟨fun _ => ?_, fun h => absurd h (by decide)⟩ | refine ⟨fun h => absurd h (by decide), fun _ => ?_⟩)
  refine mg_cn (c39y d 1) (by omega) ?_
  repeat (first | refine ⟨_, mg_Fs rfl rfl, ?_⟩ | refine ⟨Or.inl rfl, ?_⟩ | refine ⟨Or.inr ⟨_, rfl⟩, ?_⟩ | refine ⟨fun _ => ?_, fun h => absurd h (by decide)⟩ | refine ⟨fun h => absurd h (by decide), fun _ => ?_⟩)
  refine mg_m_mono (c39x d hk 5) (by omega) ?_
  rintro o q G1 ⟨rfl, rfl, rfl⟩
  exact ⟨rfl, rfl, rfl⟩
theorem c56c (d : Nat) (hI : cIn G l) (hB : ckB G l) (hk : ck G l p) (hp : p ≤ l.length) (h : k_is l p 40 = true) {o : Nat} (ho : o < 20) : mg_m (mg_KC scr t) (d + 3) 56 [.ref 3, .int (Int32.ofNat o)] G (c93Q G l (k_E l p)) := by
  have k1 := c94 (scr := scr) (t := t) d hI hk (c := 40) (by decide)
  rw [h] at k1
  refine mg_me [] 60 my_56 ms_56 (Nat.le_of_ble_eq_true rfl) ?_
  repeat (first | refine ⟨_, mg_Fs rfl rfl, ?_⟩ | refine ⟨Or.inl rfl, ?_⟩ | refine ⟨Or.inr ⟨_, rfl⟩, ?_⟩ | refine ⟨fun _ => ?_, fun h => absurd h (by decide)⟩ | refine ⟨fun h => absurd h (by decide), fun _ => ?_⟩)
  refine mg_cv (k1) (by omega) ?_
  refine ⟨fun _ => ?_, fun q => absurd q (by decide)⟩
  repeat (first | refine ⟨_, mg_Fs rfl rfl, ?_⟩ | refine ⟨Or.inl rfl, ?_⟩ | refine ⟨Or.inr ⟨_, rfl⟩, ?_⟩ | refine ⟨fun _ => ?_, fun h => absurd h (by decide)⟩ | refine ⟨fun h => absurd h (by decide), fun _ => ?_⟩)
  refine mg_cn (c39y d 1) (by omega) ?_
  refine ⟨fun _ => ?_, fun q => absurd q (mg_nle (b := 20) ho (by decide))⟩
  repeat (first | refine ⟨_, mg_Fs rfl rfl, ?_⟩ | refine ⟨Or.inl rfl, ?_⟩ | refine ⟨Or.inr ⟨_, rfl⟩, ?_⟩ | refine ⟨fun _ => ?_, fun h => absurd h (by decide)⟩ | refine ⟨fun h => absurd h (by decide), fun _ => ?_⟩)
  refine mg_cn (c39y d 5) (by omega) ?_
  repeat (first | refine ⟨_, mg_Fs rfl rfl, ?_⟩ | refine ⟨Or.inl rfl, ?_⟩ | refine ⟨Or.inr ⟨_, rfl⟩, ?_⟩ | refine ⟨fun _ => ?_, fun h => absurd h (by decide)⟩ | refine ⟨fun h => absurd h (by decide), fun _ => ?_⟩)
  refine mg_m_mono (c93 d hI (k_E_le hp) hB hk.1) (by omega) ?_
  rintro o q G1 ⟨rfl, rfl, w⟩
  exact ⟨rfl, rfl, w⟩
theorem c52 (d : Nat) (hI : cIn G l) (hk : ck G l p) (hp : p ≤ l.length) : mg_m (mg_KC scr t) (d + 2) 52 [.ref 3] G (mg_v (.int (b2 (k_is l p 33 || (k_wd l p w_all || k_wd l p w_some)))) G) := by
  have k1 := c94 (scr := scr) (t := t) d hI hk (c := 33) (by decide)
  have k2 := c97 (scr := scr) (t := t) d hk hp n7_all
  have k3 := c97 (scr := scr) (t := t) d hk hp n7_some
  refine mg_me [] 60 my_52 ms_52 (Nat.le_of_ble_eq_true rfl) ?_
  repeat (first | refine ⟨_, mg_Fs rfl rfl, ?_⟩ | refine ⟨Or.inl rfl, ?_⟩ | refine ⟨Or.inr ⟨_, rfl⟩, ?_⟩ | refine ⟨fun _ => ?_, fun h => absurd h (by decide)⟩ | refine ⟨fun h => absurd h (by decide), fun _ => ?_⟩)
  refine mg_cv (k1) (by omega) ?_
  cases k_is l p 33 with
  | true => exact ⟨fun _ => ⟨Or.inr rfl, rfl, rfl, rfl⟩, fun q => absurd q (by decide)⟩
  | false =>
    refine ⟨fun q => absurd rfl q, fun _ => ?_⟩
    repeat (first | refine ⟨_, mg_Fs rfl rfl, ?_⟩ | refine ⟨Or.inl rfl, ?_⟩ | refine ⟨Or.inr ⟨_, rfl⟩, ?_⟩ | refine ⟨fun _ => ?_, fun h => absurd h (by decide)⟩ | refine ⟨fun h => absurd h (by decide), fun _ => ?_⟩)
    refine mg_cv (k2) (by omega) ?_
    cases k_wd l p w_all with
    | true => exact ⟨fun _ => ⟨Or.inr rfl, rfl, rfl, rfl⟩, fun q => absurd q (by decide)⟩
    | false =>
      refine ⟨fun q => absurd rfl q, fun _ => ?_⟩
      repeat (first | refine ⟨_, mg_Fs rfl rfl, ?_⟩ | refine ⟨Or.inl rfl, ?_⟩ | refine ⟨Or.inr ⟨_, rfl⟩, ?_⟩ | refine ⟨fun _ => ?_, fun h => absurd h (by decide)⟩ | refine ⟨fun h => absurd h (by decide), fun _ => ?_⟩)
      refine mg_cv (k3) (by omega) ?_
      cases k_wd l p w_some with
      | true => exact ⟨fun q => absurd q (by decide), fun _ => ⟨Or.inr rfl, rfl, rfl, rfl⟩⟩
      | false => exact ⟨fun _ => ⟨Or.inr rfl, rfl, rfl, rfl⟩, fun q => absurd rfl q⟩
/-- a prefix is read -/
theorem c53n (d : Nat) (hI : cIn G l) (hB : ckB G l) (hk : ck G l p) (hp : p ≤ l.length) (h : k_is l p 33 = true) : mg_m (mg_KC scr t) (d + 3) 53 [.ref 3] G (fun o q G' => o = .inl (some (.int (Int32.ofNat (yPn none)))) ∧ q = 0 ∧ ckB G' l ∧ ck G' l (k_E l p) ∧ cTf G G') := by
  have k1 := c94 (scr := scr) (t := t) d hI hk (c := 33) (by decide)
  have k2 := c97 (scr := scr) (t := t) d hk hp n7_all
  rw [h] at k1
  refine mg_me [] 60 my_53 ms_53 (Nat.le_of_ble_eq_true rfl) ?_
  repeat (first | refine ⟨_, mg_Fs rfl rfl, ?_⟩ | refine ⟨Or.inl rfl, ?_⟩ | refine ⟨Or.inr ⟨_, rfl⟩, ?_⟩ | refine ⟨fun _ => ?_, fun h => absurd h (by decide)⟩ | refine ⟨fun h => absurd h (by decide), fun _ => ?_⟩)
  refine mg_cv (k1) (by omega) ?_
  repeat (first | refine ⟨_, mg_Fs rfl rfl, ?_⟩ | refine ⟨Or.inl rfl, ?_⟩ | refine ⟨Or.inr ⟨_, rfl⟩, ?_⟩ | refine ⟨fun _ => ?_, fun h => absurd h (by decide)⟩ | refine ⟨fun h => absurd h (by decide), fun _ => ?_⟩)
  refine mg_cv (k2) (by omega) ?_
  repeat (first | refine ⟨_, mg_Fs rfl rfl, ?_⟩ | refine ⟨Or.inl rfl, ?_⟩ | refine ⟨Or.inr ⟨_, rfl⟩, ?_⟩ | refine ⟨fun _ => ?_, fun h => absurd h (by decide)⟩ | refine ⟨fun h => absurd h (by decide), fun _ => ?_⟩)
  refine mg_m_mono (c93 d hI (k_E_le hp) hB hk.1) (by omega) ?_
  rintro o q G1 ⟨rfl, rfl, w1, w2, w3⟩
  exact ⟨fun q => absurd q (by decide), fun _ => ⟨Or.inl rfl, rfl, rfl, w1, w2, w3⟩⟩
theorem c53x (d : Nat) (hI : cIn G l) (hB : ckB G l) (hS : cS G 4 A) (hW : aW A) (hk : ck G l p) (hp : p ≤ l.length) (h : k_is l p 33 = false) {e : zEr} (he : (k_nm l (k_E l p) = false ∧ e = (1, k_S l (k_E l p))) ∨ (k_nm l (k_E l p) = true ∧ k_v A l (k_E l p) = none ∧ e = (3, k_S l (k_E l p)))) : mg_m (mg_KC scr t) (d + 4) 53 [.ref 3] G (yE G e) := by
  have hE := k_E_le hp
  have k1 := c94 (scr := scr) (t := t) d hI hk (c := 33) (by decide)
  have k2 := c97 (scr := scr) (t := t) d hk hp n7_all
  rw [h] at k1
  have k3 : ∀ G1 : mg_G, cTf G G1 → ck G1 l (k_E l p) → mg_m (mg_KC scr t) (d + 2) 48 [.ref 3] G1 (yE G e) := fun G1 hf hk1 => by
    rcases he with ⟨g1, rfl⟩ | ⟨g1, g2, rfl⟩
    · refine mg_m_mono (c48n d hk1 hE g1) (by omega) ?_
      rintro o q G2 ⟨rfl, rfl, rfl⟩
      exact yE_x hf.y
    · refine mg_m_mono (c48x d (hS.fr hf (fun a ha => by unfold kQ at ha; omega)) hW hk1 hE g1 g2) (by omega) ?_
      rintro o q G2 ⟨rfl, rfl, rfl⟩
      exact yE_x hf.y
  cases hb : k_wd l p w_all with
  | true =>
    rw [hb] at k2
    refine mg_me [] 60 my_53 ms_53 (Nat.le_of_ble_eq_true rfl) ?_
    repeat (first | refine ⟨_, mg_Fs rfl rfl, ?_⟩ | refine ⟨Or.inl rfl, ?_⟩ | refine ⟨Or.inr ⟨_, rfl⟩, ?_⟩ | refine ⟨fun _ => ?_, fun h => absurd h (by decide)⟩ | refine ⟨fun h => absurd h (by decide), fun _ => ?_⟩)
    refine mg_cv (k1) (by omega) ?_
    repeat (first | refine ⟨_, mg_Fs rfl rfl, ?_⟩ | refine ⟨Or.inl rfl, ?_⟩ | refine ⟨Or.inr ⟨_, rfl⟩, ?_⟩ | refine ⟨fun _ => ?_, fun h => absurd h (by decide)⟩ | refine ⟨fun h => absurd h (by decide), fun _ => ?_⟩)
    refine mg_cv (k2) (by omega) ?_
    repeat (first | refine ⟨_, mg_Fs rfl rfl, ?_⟩ | refine ⟨Or.inl rfl, ?_⟩ | refine ⟨Or.inr ⟨_, rfl⟩, ?_⟩ | refine ⟨fun _ => ?_, fun h => absurd h (by decide)⟩ | refine ⟨fun h => absurd h (by decide), fun _ => ?_⟩)
    refine mg_m_mono (c93 d hI hE hB hk.1) (by omega) ?_
    rintro o q G1 ⟨rfl, rfl, w1, w2, w3⟩
    refine ⟨fun _ => ⟨fun q => absurd q (by decide), fun _ => ?_⟩, fun q => absurd rfl q⟩
    repeat (first | refine ⟨_, mg_Fs rfl rfl, ?_⟩ | refine ⟨Or.inl rfl, ?_⟩ | refine ⟨Or.inr ⟨_, rfl⟩, ?_⟩ | refine ⟨fun _ => ?_, fun h => absurd h (by decide)⟩ | refine ⟨fun h => absurd h (by decide), fun _ => ?_⟩)
    refine mg_m_mono (k3 G1 w3 w2) (by omega) ?_
    rintro o q G2 w
    obtain ⟨rfl, rfl, w'⟩ := yE_m (mg_fr.rf _ _) w
    exact w'
  | false =>
    rw [hb] at k2
    refine mg_me [] 60 my_53 ms_53 (Nat.le_of_ble_eq_true rfl) ?_
    repeat (first | refine ⟨_, mg_Fs rfl rfl, ?_⟩ | refine ⟨Or.inl rfl, ?_⟩ | refine ⟨Or.inr ⟨_, rfl⟩, ?_⟩ | refine ⟨fun _ => ?_, fun h => absurd h (by decide)⟩ | refine ⟨fun h => absurd h (by decide), fun _ => ?_⟩)
    refine mg_cv (k1) (by omega) ?_
    repeat (first | refine ⟨_, mg_Fs rfl rfl, ?_⟩ | refine ⟨Or.inl rfl, ?_⟩ | refine ⟨Or.inr ⟨_, rfl⟩, ?_⟩ | refine ⟨fun _ => ?_, fun h => absurd h (by decide)⟩ | refine ⟨fun h => absurd h (by decide), fun _ => ?_⟩)
    refine mg_cv (k2) (by omega) ?_
    repeat (first | refine ⟨_, mg_Fs rfl rfl, ?_⟩ | refine ⟨Or.inl rfl, ?_⟩ | refine ⟨Or.inr ⟨_, rfl⟩, ?_⟩ | refine ⟨fun _ => ?_, fun h => absurd h (by decide)⟩ | refine ⟨fun h => absurd h (by decide), fun _ => ?_⟩)
    refine mg_m_mono (c93 d hI hE hB hk.1) (by omega) ?_
    rintro o q G1 ⟨rfl, rfl, w1, w2, w3⟩
    refine ⟨fun _ => ⟨fun _ => ?_, fun q => absurd rfl q⟩, fun q => absurd rfl q⟩
    repeat (first | refine ⟨_, mg_Fs rfl rfl, ?_⟩ | refine ⟨Or.inl rfl, ?_⟩ | refine ⟨Or.inr ⟨_, rfl⟩, ?_⟩ | refine ⟨fun _ => ?_, fun h => absurd h (by decide)⟩ | refine ⟨fun h => absurd h (by decide), fun _ => ?_⟩)
    refine mg_m_mono (k3 G1 w3 w2) (by omega) ?_
    rintro o q G2 w
    obtain ⟨rfl, rfl, w'⟩ := yE_m (mg_fr.rf _ _) w
    exact w'
theorem c53y (d : Nat) (hI : cIn G l) (hB : ckB G l) (hS : cS G 4 A) (hW : aW A) (hk : ck G l p) (hp : p ≤ l.length) (h : k_is l p 33 = false) (h2 : k_nm l (k_E l p) = true) {v : Nat} (hv : k_v A l (k_E l p) = some v) : mg_m (mg_KC scr t) (d + 5) 53 [.ref 3] G (fun o q G' => o = .inl (some (.int (Int32.ofNat (yPn (some (k_wd l p w_all, v)))))) ∧ q = 0 ∧ ckB G' l ∧ ck G' l (k_E l (k_E l p)) ∧ cTf G G') := by
  have hE := k_E_le hp
  have k1 := c94 (scr := scr) (t := t) d hI hk (c := 33) (by decide)
  have k2 := c97 (scr := scr) (t := t) d hk hp n7_all
  rw [h] at k1
  cases hb : k_wd l p w_all with
  | true =>
    rw [hb] at k2
    refine mg_me [] 60 my_53 ms_53 (Nat.le_of_ble_eq_true rfl) ?_
    repeat (first | refine ⟨_, mg_Fs rfl rfl, ?_⟩ | refine ⟨Or.inl rfl, ?_⟩ | refine ⟨Or.inr ⟨_, rfl⟩, ?_⟩ | refine ⟨fun _ => ?_, fun h => absurd h (by decide)⟩ | refine ⟨fun h => absurd h (by decide), fun _ => ?_⟩)
    refine mg_cv (k1) (by omega) ?_
    repeat (first | refine ⟨_, mg_Fs rfl rfl, ?_⟩ | refine ⟨Or.inl rfl, ?_⟩ | refine ⟨Or.inr ⟨_, rfl⟩, ?_⟩ | refine ⟨fun _ => ?_, fun h => absurd h (by decide)⟩ | refine ⟨fun h => absurd h (by decide), fun _ => ?_⟩)
    refine mg_cv (k2) (by omega) ?_
    repeat (first | refine ⟨_, mg_Fs rfl rfl, ?_⟩ | refine ⟨Or.inl rfl, ?_⟩ | refine ⟨Or.inr ⟨_, rfl⟩, ?_⟩ | refine ⟨fun _ => ?_, fun h => absurd h (by decide)⟩ | refine ⟨fun h => absurd h (by decide), fun _ => ?_⟩)
    refine mg_m_mono (c93 d hI hE hB hk.1) (by omega) ?_
    rintro o q G1 ⟨rfl, rfl, w1, w2, w3⟩
    refine ⟨fun _ => ⟨fun q => absurd q (by decide), fun _ => ?_⟩, fun q => absurd rfl q⟩
    repeat (first | refine ⟨_, mg_Fs rfl rfl, ?_⟩ | refine ⟨Or.inl rfl, ?_⟩ | refine ⟨Or.inr ⟨_, rfl⟩, ?_⟩ | refine ⟨fun _ => ?_, fun h => absurd h (by decide)⟩ | refine ⟨fun h => absurd h (by decide), fun _ => ?_⟩)
    refine mg_m_mono (c48y d (w3.n hI) w1 (hS.fr w3 (fun a ha => by unfold kQ at ha; omega)) hW w2 hE h2 hv) (by omega) ?_
    rintro o q G2 ⟨rfl, rfl, w4, w5, w6⟩
    exact ⟨Or.inl rfl, congrArg (fun x => (Sum.inl (some (Value.int x)) : Option Value ⊕ String)) (show Int32.ofNat v + (Int8.ofInt 8).toInt32 = Int32.ofNat (v + 8) from (Int32.ofNat_add v 8).symm), rfl, w4, w5, w3.tr w6⟩
  | false =>
    rw [hb] at k2
    refine mg_me [] 60 my_53 ms_53 (Nat.le_of_ble_eq_true rfl) ?_
    repeat (first | refine ⟨_, mg_Fs rfl rfl, ?_⟩ | refine ⟨Or.inl rfl, ?_⟩ | refine ⟨Or.inr ⟨_, rfl⟩, ?_⟩ | refine ⟨fun _ => ?_, fun h => absurd h (by decide)⟩ | refine ⟨fun h => absurd h (by decide), fun _ => ?_⟩)
    refine mg_cv (k1) (by omega) ?_
    repeat (first | refine ⟨_, mg_Fs rfl rfl, ?_⟩ | refine ⟨Or.inl rfl, ?_⟩ | refine ⟨Or.inr ⟨_, rfl⟩, ?_⟩ | refine ⟨fun _ => ?_, fun h => absurd h (by decide)⟩ | refine ⟨fun h => absurd h (by decide), fun _ => ?_⟩)
    refine mg_cv (k2) (by omega) ?_
    repeat (first | refine ⟨_, mg_Fs rfl rfl, ?_⟩ | refine ⟨Or.inl rfl, ?_⟩ | refine ⟨Or.inr ⟨_, rfl⟩, ?_⟩ | refine ⟨fun _ => ?_, fun h => absurd h (by decide)⟩ | refine ⟨fun h => absurd h (by decide), fun _ => ?_⟩)
    refine mg_m_mono (c93 d hI hE hB hk.1) (by omega) ?_
    rintro o q G1 ⟨rfl, rfl, w1, w2, w3⟩
    refine ⟨fun _ => ⟨fun _ => ?_, fun q => absurd rfl q⟩, fun q => absurd rfl q⟩
    repeat (first | refine ⟨_, mg_Fs rfl rfl, ?_⟩ | refine ⟨Or.inl rfl, ?_⟩ | refine ⟨Or.inr ⟨_, rfl⟩, ?_⟩ | refine ⟨fun _ => ?_, fun h => absurd h (by decide)⟩ | refine ⟨fun h => absurd h (by decide), fun _ => ?_⟩)
    refine mg_m_mono (c48y d (w3.n hI) w1 (hS.fr w3 (fun a ha => by unfold kQ at ha; omega)) hW w2 hE h2 hv) (by omega) ?_
    rintro o q G2 ⟨rfl, rfl, w4, w5, w6⟩
    exact ⟨Or.inl rfl, rfl, rfl, w4, w5, w3.tr w6⟩
end KC
