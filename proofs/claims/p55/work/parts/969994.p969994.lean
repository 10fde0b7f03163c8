/-- the places that reading a formula uses -/
abbrev yF (G G' : mg_G) : Prop := mg_fr (fun a => a = 3 ∨ a = 12 ∨ a = 28 ∨ a = 29) G G'
/-- an error is kept; it is thrown -/
def yX (G : mg_G) (c : Int32) (l : List Nat) (p : Nat) : mg_G := mg_sF (mg_sF G 3 6 (.int c)) 3 7 (.int (Int32.ofNat (k_S l p)))
theorem yX_F (G : mg_G) (c : Int32) (l : List Nat) (p : Nat) : yF G (yX G c l p) := (mg_fr.sF (p := fun a => a = 3 ∨ a = 12 ∨ a = 28 ∨ a = 29) _ _ _ (Or.inl rfl)).tr (mg_fr.sF _ _ _ (Or.inl rfl))
/-- what reading ends with when there is an error: e, as against G -/
def yE (G : mg_G) (e : zEr) : mg_Q := fun o q G' => o = .inr xA ∧ q = 1 ∧ yF G G' ∧ G'.2.2.2.2 3 6 = .int e.1 ∧ G'.2.2.2.2 3 7 = .int (Int32.ofNat e.2)
theorem yE_m {G0 G G' : mg_G} {e : zEr} {o : Option Value ⊕ String} {q : Nat} (h : yF G0 G) (w : yE G e o q G') : o = .inr xA ∧ q = 1 ∧ yE G0 e (.inr xA) 1 G' := ⟨w.1, w.2.1, rfl, rfl, h.tr w.2.2.1, w.2.2.2⟩
theorem yE_x {G0 G : mg_G} {c : Int32} {l : List Nat} {p : Nat} (h : yF G0 G) : yE G0 (c, k_S l p) (.inr xA) 1 (yX G c l p) := ⟨rfl, rfl, h.tr (yX_F G c l p), (mg_sF_ne _ _ (by decide)).trans (mg_sF_at _ _ _ _), mg_sF_at _ _ _ _⟩
theorem cTf.y {G G' : mg_G} (h : cTf G G') : yF G G' := h.mono (fun a ha => Or.inr (Or.inl ha))
section KC
variable {scr : Nat × (Nat → Int32)} {t : List mg_S} {G : mg_G} {A : a_A} {l : List Nat} {p : Nat}
theorem c39y (d : Nat) (c : Int32) : mg_m (mg_KC scr t) (d + 1) 39 [.ref 3, .int 0, .int c] G (mg_n G) := by
  refine mg_me [] 20 my_39 ms_39 (Nat.le_of_ble_eq_true rfl) ?_
  exact ⟨fun _ => ⟨rfl, rfl, rfl⟩, fun h => absurd rfl h⟩
theorem c39x (d : Nat) (hk : ck G l p) (c : Int32) : mg_m (mg_KC scr t) (d + 1) 39 [.ref 3, .int 1, .int c] G (fun o q G' => o = .inr xA ∧ q = 1 ∧ G' = yX G c l p) := by
  have h4 : (mg_sF G 3 6 (.int c)).2.2.2.2 12 4 = .int (Int32.ofNat (k_S l p)) := (mg_sF_ne _ _ (by decide)).trans hk.2.2.1
  refine mg_me [] 20 my_39 ms_39 (Nat.le_of_ble_eq_true rfl) ?_
  refine ⟨fun h => absurd h (by decide), fun _ => ?_⟩
  refine ⟨rfl, _, rfl, rfl, ?_⟩
  repeat (first | refine ⟨_, mg_Fs rfl rfl, ?_⟩ | refine ⟨Or.inl rfl, ?_⟩ | refine ⟨Or.inr ⟨_, rfl⟩, ?_⟩ | refine ⟨fun _ => ?_, fun h => absurd h (by decide)⟩ | refine ⟨fun h => absurd h (by decide), fun _ => ?_⟩)
  refine ⟨_, mg_Fe h4 rfl rfl, rfl, _, rfl, rfl, ?_⟩
  exact ⟨Nat.le_of_ble_eq_true rfl, rfl, rfl, rfl⟩
/-- a sign that must stand: it is taken, or an error -/
theorem c46x (d : Nat) (hI : cIn G l) (hk : ck G l p) {c : Nat} (hc : c < 128) (h : k_is l p c = false) : mg_m (mg_KC scr t) (d + 2) 46 [.ref 3, .int (Int32.ofNat c)] G (fun o q G' => o = .inr xA ∧ q = 1 ∧ G' = yX G 1 l p) := by
  have k1 := c94 (scr := scr) (t := t) d hI hk hc
  rw [h] at k1
  refine mg_me [] 20 my_46 ms_46 (Nat.le_of_ble_eq_true rfl) ?_
  repeat (first | refine ⟨_, mg_Fs rfl rfl, ?_⟩ | refine ⟨Or.inl rfl, ?_⟩ | refine ⟨Or.inr ⟨_, rfl⟩, ?_⟩ | refine ⟨fun _ => ?_, fun h => absurd h (by decide)⟩ | refine ⟨fun h => absurd h (by decide), fun _ => ?_⟩)
  refine mg_cv (k1) (by omega) ?_
  refine ⟨fun q => absurd rfl q, fun _ => ?_⟩
  repeat (first | refine ⟨_, mg_Fs rfl rfl, ?_⟩ | refine ⟨Or.inl rfl, ?_⟩ | refine ⟨Or.inr ⟨_, rfl⟩, ?_⟩ | refine ⟨fun _ => ?_, fun h => absurd h (by decide)⟩ | refine ⟨fun h => absurd h (by decide), fun _ => ?_⟩)
  refine mg_m_mono (c39x d hk 1) (by omega) ?_
  rintro o q G1 ⟨rfl, rfl, rfl⟩
  exact ⟨rfl, rfl, rfl⟩
theorem c46y (d : Nat) (hI : cIn G l) (hB : ckB G l) (hk : ck G l p) (hp : p ≤ l.length) {c : Nat} (hc : c < 128) (h : k_is l p c = true) : mg_m (mg_KC scr t) (d + 3) 46 [.ref 3, .int (Int32.ofNat c)] G (c93Q G l (k_E l p)) := by
  have k1 := c94 (scr := scr) (t := t) d hI hk hc
  rw [h] at k1
  refine mg_me [] 20 my_46 ms_46 (Nat.le_of_ble_eq_true rfl) ?_
  repeat (first | refine ⟨_, mg_Fs rfl rfl, ?_⟩ | refine ⟨Or.inl rfl, ?_⟩ | refine ⟨Or.inr ⟨_, rfl⟩, ?_⟩ | refine ⟨fun _ => ?_, fun h => absurd h (by decide)⟩ | refine ⟨fun h => absurd h (by decide), fun _ => ?_⟩)
  refine mg_cv (k1) (by omega) ?_
  refine ⟨fun _ => ?_, fun q => absurd q (by decide)⟩
  repeat (first | refine ⟨_, mg_Fs rfl rfl, ?_⟩ | refine ⟨Or.inl rfl, ?_⟩ | refine ⟨Or.inr ⟨_, rfl⟩, ?_⟩ | refine ⟨fun _ => ?_, fun h => absurd h (by decide)⟩ | refine ⟨fun h => absurd h (by decide), fun _ => ?_⟩)
  refine mg_cn (c39y d 1) (by omega) ?_
  repeat (first | refine ⟨_, mg_Fs rfl rfl, ?_⟩ | refine ⟨Or.inl rfl, ?_⟩ | refine ⟨Or.inr ⟨_, rfl⟩, ?_⟩ | refine ⟨fun _ => ?_, fun h => absurd h (by decide)⟩ | refine ⟨fun h => absurd h (by decide), fun _ => ?_⟩)
  refine mg_m_mono (c93 d hI (k_E_le hp) hB hk.1) (by omega) ?_
  rintro o q G1 ⟨rfl, rfl, w⟩
  exact ⟨rfl, rfl, w⟩
/-- a name must stand that is a variable's -/
theorem c48n (d : Nat) (hk : ck G l p) (hp : p ≤ l.length) (h : k_nm l p = false) : mg_m (mg_KC scr t) (d + 2) 48 [.ref 3] G (fun o q G' => o = .inr xA ∧ q = 1 ∧ G' = yX G 1 l p) := by
  have k1 := c98 (scr := scr) (t := t) d hk hp
  rw [h] at k1
  refine mg_me [] 60 my_48 ms_48 (Nat.le_of_ble_eq_true rfl) ?_
  repeat (first | refine ⟨_, mg_Fs rfl rfl, ?_⟩ | refine ⟨Or.inl rfl, ?_⟩ | refine ⟨Or.inr ⟨_, rfl⟩, ?_⟩ | refine ⟨fun _ => ?_, fun h => absurd h (by decide)⟩ | refine ⟨fun h => absurd h (by decide), fun _ => ?_⟩)
  refine mg_cv (k1) (by omega) ?_
  refine ⟨fun q => absurd rfl q, fun _ => ?_⟩
  repeat (first | refine ⟨_, mg_Fs rfl rfl, ?_⟩ | refine ⟨Or.inl rfl, ?_⟩ | refine ⟨Or.inr ⟨_, rfl⟩, ?_⟩ | refine ⟨fun _ => ?_, fun h => absurd h (by decide)⟩ | refine ⟨fun h => absurd h (by decide), fun _ => ?_⟩)
  refine mg_m_mono (c39x d hk 1) (by omega) ?_
  rintro o q G1 ⟨rfl, rfl, rfl⟩
  exact ⟨rfl, rfl, rfl⟩
theorem c69A (d : Nat) (hS : cS G 4 A) (hW : aW A) (hp : p ≤ l.length) (h1 : k_K l p = 1) : mg_m (mg_KC scr t) (d + 1) 69 [.ref 4, .long (a_pk (k_W l p))] G (mg_v (.int (a_oi (k_v A l p))) G) := c69w d kc_s2 (by have : aV A ≤ 8 := hW.2.1.2.2.2; omega) hS.2.2.1 hp h1 (fun v hv => ⟨hS.2.2.2.2.2.1 v hv, (hW.2.2.2.2.1 v hv).1⟩)
theorem c68A (d : Nat) (hS : cS G 4 A) (hW : aW A) (hp : p ≤ l.length) (h1 : k_K l p = 1) : mg_m (mg_KC scr t) (d + 1) 68 [.ref 4, .long (a_pk (k_W l p))] G (mg_v (.int (a_oi (k_f A l p))) G) := c68w d kc_s2 hW.2.2.1 hS.2.1 hp h1 (fun f hf => ⟨hS.2.2.2.2.1 f hf, hW.2.2.2.2.2.1 f hf⟩)
theorem c48x (d : Nat) (hS : cS G 4 A) (hW : aW A) (hk : ck G l p) (hp : p ≤ l.length) (h : k_nm l p = true) (hv : k_v A l p = none) : mg_m (mg_KC scr t) (d + 2) 48 [.ref 3] G (fun o q G' => o = .inr xA ∧ q = 1 ∧ G' = yX G 3 l p) := by
  have h1 := k_nm_1 h
  have k1 := c98 (scr := scr) (t := t) d hk hp
  rw [h] at k1
  have k2 := c69A (scr := scr) (t := t) d hS hW hp h1
  rw [hv] at k2
  refine mg_me [] 60 my_48 ms_48 (Nat.le_of_ble_eq_true rfl) ?_
  repeat (first | refine ⟨_, mg_Fs rfl rfl, ?_⟩ | refine ⟨Or.inl rfl, ?_⟩ | refine ⟨Or.inr ⟨_, rfl⟩, ?_⟩ | refine ⟨fun _ => ?_, fun h => absurd h (by decide)⟩ | refine ⟨fun h => absurd h (by decide), fun _ => ?_⟩)
  refine mg_cv (k1) (by omega) ?_
  refine ⟨fun _ => ?_, fun q => absurd q (by decide)⟩
  repeat (first | refine ⟨_, mg_Fs rfl rfl, ?_⟩ | refine ⟨Or.inl rfl, ?_⟩ | refine ⟨Or.inr ⟨_, rfl⟩, ?_⟩ | refine ⟨fun _ => ?_, fun h => absurd h (by decide)⟩ | refine ⟨fun h => absurd h (by decide), fun _ => ?_⟩)
  refine mg_cn (c39y d 1) (by omega) ?_
  repeat (first | refine ⟨_, mg_Fs rfl rfl, ?_⟩ | refine ⟨Or.inl rfl, ?_⟩ | refine ⟨Or.inr ⟨_, rfl⟩, ?_⟩ | refine ⟨fun _ => ?_, fun h => absurd h (by decide)⟩ | refine ⟨fun h => absurd h (by decide), fun _ => ?_⟩)
  refine ⟨_, mg_Fe (hk.2.2.2.1 h1) rfl rfl, ?_⟩
  repeat (first | refine ⟨_, mg_Fs rfl rfl, ?_⟩ | refine ⟨Or.inl rfl, ?_⟩ | refine ⟨Or.inr ⟨_, rfl⟩, ?_⟩ | refine ⟨fun _ => ?_, fun h => absurd h (by decide)⟩ | refine ⟨fun h => absurd h (by decide), fun _ => ?_⟩)
  refine mg_cv (k2) (by omega) ?_
  refine ⟨fun q => absurd rfl q, fun _ => ?_⟩
  repeat (first | refine ⟨_, mg_Fs rfl rfl, ?_⟩ | refine ⟨Or.inl rfl, ?_⟩ | refine ⟨Or.inr ⟨_, rfl⟩, ?_⟩ | refine ⟨fun _ => ?_, fun h => absurd h (by decide)⟩ | refine ⟨fun h => absurd h (by decide), fun _ => ?_⟩)
  refine mg_m_mono (c39x d hk 3) (by omega) ?_
  rintro o q G1 ⟨rfl, rfl, rfl⟩
  exact ⟨rfl, rfl, rfl⟩
theorem c48y (d : Nat) (hI : cIn G l) (hB : ckB G l) (hS : cS G 4 A) (hW : aW A) (hk : ck G l p) (hp : p ≤ l.length) (h : k_nm l p = true) {v : Nat} (hv : k_v A l p = some v) : mg_m (mg_KC scr t) (d + 3) 48 [.ref 3] G (fun o q G' => o = .inl (some (.int (Int32.ofNat v))) ∧ q = 0 ∧ ckB G' l ∧ ck G' l (k_E l p) ∧ cTf G G') := by
  have h1 := k_nm_1 h
  have h8 : aV A ≤ 8 := hW.2.1.2.2.2
  have hv2 : v < aV A := k_at_lt hv
  have k1 := c98 (scr := scr) (t := t) d hk hp
  rw [h] at k1
  have k2 := c69A (scr := scr) (t := t) d hS hW hp h1
  rw [hv] at k2
  refine mg_me [] 60 my_48 ms_48 (Nat.le_of_ble_eq_true rfl) ?_
  repeat (first | refine ⟨_, mg_Fs rfl rfl, ?_⟩ | refine ⟨Or.inl rfl, ?_⟩ | refine ⟨Or.inr ⟨_, rfl⟩, ?_⟩ | refine ⟨fun _ => ?_, fun h => absurd h (by decide)⟩ | refine ⟨fun h => absurd h (by decide), fun _ => ?_⟩)
  refine mg_cv (k1) (by omega) ?_
  refine ⟨fun _ => ?_, fun q => absurd q (by decide)⟩
  repeat (first | refine ⟨_, mg_Fs rfl rfl, ?_⟩ | refine ⟨Or.inl rfl, ?_⟩ | refine ⟨Or.inr ⟨_, rfl⟩, ?_⟩ | refine ⟨fun _ => ?_, fun h => absurd h (by decide)⟩ | refine ⟨fun h => absurd h (by decide), fun _ => ?_⟩)
  refine mg_cn (c39y d 1) (by omega) ?_
  repeat (first | refine ⟨_, mg_Fs rfl rfl, ?_⟩ | refine ⟨Or.inl rfl, ?_⟩ | refine ⟨Or.inr ⟨_, rfl⟩, ?_⟩ | refine ⟨fun _ => ?_, fun h => absurd h (by decide)⟩ | refine ⟨fun h => absurd h (by decide), fun _ => ?_⟩)
  refine ⟨_, mg_Fe (hk.2.2.2.1 h1) rfl rfl, ?_⟩
  repeat (first | refine ⟨_, mg_Fs rfl rfl, ?_⟩ | refine ⟨Or.inl rfl, ?_⟩ | refine ⟨Or.inr ⟨_, rfl⟩, ?_⟩ | refine ⟨fun _ => ?_, fun h => absurd h (by decide)⟩ | refine ⟨fun h => absurd h (by decide), fun _ => ?_⟩)
  refine mg_cv (k2) (by omega) ?_
  refine ⟨fun _ => ?_, fun q => absurd q (mg_n1 (by omega))⟩
  repeat (first | refine ⟨_, mg_Fs rfl rfl, ?_⟩ | refine ⟨Or.inl rfl, ?_⟩ | refine ⟨Or.inr ⟨_, rfl⟩, ?_⟩ | refine ⟨fun _ => ?_, fun h => absurd h (by decide)⟩ | refine ⟨fun h => absurd h (by decide), fun _ => ?_⟩)
  refine mg_cn (c39y d 3) (by omega) ?_
  repeat (first | refine ⟨_, mg_Fs rfl rfl, ?_⟩ | refine ⟨Or.inl rfl, ?_⟩ | refine ⟨Or.inr ⟨_, rfl⟩, ?_⟩ | refine ⟨fun _ => ?_, fun h => absurd h (by decide)⟩ | refine ⟨fun h => absurd h (by decide), fun _ => ?_⟩)
  refine mg_m_mono (c93 d hI (k_E_le hp) hB hk.1) (by omega) ?_
  rintro o q G1 ⟨rfl, rfl, w1, w2, w3⟩
  exact ⟨Or.inl rfl, rfl, rfl, w1, w2, w3⟩
end KC
