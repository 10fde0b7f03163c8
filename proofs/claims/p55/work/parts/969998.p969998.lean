/-- what stands when a formula is to be read -/
def yI (G : mg_G) (A : a_A) (l : List Nat) (p pc : Nat) : Prop := cS G 4 A ∧ aW A ∧ cIn G l ∧ ckB G l ∧ ck G l p ∧ G.2.2.2.2 27 1 = .int (Int32.ofNat (a_wds (aV A))) ∧ G.2.2.2.2 3 5 = .int (Int32.ofNat pc)
/-- what reading one into a row leaves -/
def yQ (G : mg_G) (A : a_A) (l : List Nat) (row pc : Nat) (r : zEr ⊕ (a_T × Nat)) : mg_Q := fun ou q G' => match r with
  | .inl e => yE G e ou q G'
  | .inr x => ou = .inl none ∧ q = 0 ∧ yF G G' ∧ ckB G' l ∧ ck G' l x.2 ∧ G'.2.2.2.2 3 5 = .int (Int32.ofNat pc) ∧ G'.2.2.2.2 3 6 = G.2.2.2.2 3 6 ∧ G'.2.2.2.2 3 7 = G.2.2.2.2 3 7 ∧ cRow G' 28 row (a_wds (aV A)) x.1 ∧ (∀ i, i < 4 * row → G'.2.1 28 i = G.2.1 28 i) ∧ ∀ i, i < pc → G'.1 29 i = G.1 29 i
section KC
variable {scr : Nat × (Nat → Int32)} {t : List mg_S} {G : mg_G} {A : a_A} {l : List Nat} {p pc row : Nat} {r : zEr ⊕ (a_T × Nat)}
theorem c57 (d : Nat) (hI : yI G A l p pc) (hp : p ≤ l.length) (hrow : row + 3 ≤ 150) (hkw : k_kw l p = false) (h : (if k_K l p = 1 then (match k_v A l p with
        | some v => some (.inr (a_var v, k_E l p))
        | none => match k_f A l p with
          | some f => some (.inr (aT A f, k_E l p))
          | none => zErr 3 l p)
      else if k_bit l p = true then some (.inr (z_cst (decide (k_N l p = 1)), k_E l p))
      else zErr 1 l p) = some r) : mg_m (mg_KC scr t) (d + 4) 57 [.ref 3, .int (Int32.ofNat row)] G (yQ G A l row pc r) := by
  obtain ⟨hS, hW, hN, hB, hk, hw, h5⟩ := hI
  have h8 : aV A ≤ 8 := hW.2.1.2.2.2
  obtain ⟨hn, -⟩ := a_wds_i (aV A) h8
  have h4 : a_wds (aV A) ≤ 4 := by omega
  have hE := k_E_le hp
  have tail : ∀ (g : Nat → Int64) (T : a_T), (∀ w, w < a_wds (aV A) → g w = a_wd T w) → ∀ x2 x3, mg_wp (mg_KC scr t) mc_57 (d + 3) 140 [some (.ref 3), some (.int (Int32.ofNat row)), x2, x3] [] (cW G 28 row (a_wds (aV A)) g) (yQ G A l row pc (.inr (T, k_E l p))) := fun g T hg x2 x3 => by
    have f1 : mg_fr (fun a => a = 28) G (cW G 28 row (a_wds (aV A)) g) := mg_fr.cW _ _ _ _ rfl
    refine mg_go [] 20 140 ms_57 ?_
    repeat (first | refine ⟨_, mg_Fs rfl rfl, ?_⟩ | refine ⟨Or.inl rfl, ?_⟩ | refine ⟨Or.inr ⟨_, rfl⟩, ?_⟩ | refine ⟨fun _ => ?_, fun h => absurd h (by decide)⟩ | refine ⟨fun h => absurd h (by decide), fun _ => ?_⟩)
    refine mg_m_mono (c93 (G := cW G 28 row (a_wds (aV A)) g) d (hN.fr f1 (by decide) (by decide)) hE hB hk.1) (by omega) ?_
    rintro o q G1 ⟨rfl, rfl, w1, w2, w3⟩
    have e3 := (w3 3 (by decide)).2.2.2.2
    refine ⟨rfl, rfl, (f1.mono (fun a ha => Or.inr (Or.inr (Or.inl ha)))).tr w3.y, w1, w2, by rw [e3]; exact h5, by rw [e3]; rfl, by rw [e3]; rfl, fun w hw2 => ?_, fun i hi => ?_, fun i hi => ?_⟩
    · rw [(w3 28 (by decide)).2.1, cW_in _ _ _ _ _ _ hw2]
      exact hg w hw2
    · rw [(w3 28 (by decide)).2.1, cW_at _ _ _ _ _ _ (by omega)]
    · rw [(w3 29 (by decide)).1]
      rfl
  have kb := c95 (scr := scr) (t := t) d hN hk hp
  have kn := c98 (scr := scr) (t := t) d hk hp
  by_cases h1 : k_K l p = 1
  · rw [if_pos h1] at h
    have hnm : k_nm l p = true := by unfold k_nm; rw [decide_eq_true h1, hkw]; rfl
    have hnb : k_bit l p = false := decide_eq_false (fun q => absurd (h1.symm.trans q.1) (by decide))
    rw [hnm] at kn
    rw [hnb] at kb
    have k69 := c69A (scr := scr) (t := t) d hS hW hp h1
    have k68 := c68A (scr := scr) (t := t) d hS hW hp h1
    have h7 := hk.2.2.2.1 h1
    cases hv : k_v A l p with
    | some v =>
      have hv2 : v < aV A := k_at_lt hv
      rw [hv] at h k69
      cases h
      refine mg_me [140] 80 my_57 ms_57 (Nat.le_of_ble_eq_true rfl) ?_
      repeat (first | refine ⟨_, mg_Fs rfl rfl, ?_⟩ | refine ⟨Or.inl rfl, ?_⟩ | refine ⟨Or.inr ⟨_, rfl⟩, ?_⟩ | refine ⟨fun _ => ?_, fun h => absurd h (by decide)⟩ | refine ⟨fun h => absurd h (by decide), fun _ => ?_⟩)
      refine mg_cv (kb) (by omega) ?_
      refine ⟨fun _ => ?_, fun q => absurd rfl q⟩
      repeat (first | refine ⟨_, mg_Fs rfl rfl, ?_⟩ | refine ⟨Or.inl rfl, ?_⟩ | refine ⟨Or.inr ⟨_, rfl⟩, ?_⟩ | refine ⟨fun _ => ?_, fun h => absurd h (by decide)⟩ | refine ⟨fun h => absurd h (by decide), fun _ => ?_⟩)
      refine mg_cv (kn) (by omega) ?_
      refine ⟨fun _ => ?_, fun q => absurd q (by decide)⟩
      repeat (first | refine ⟨_, mg_Fs rfl rfl, ?_⟩ | refine ⟨Or.inl rfl, ?_⟩ | refine ⟨Or.inr ⟨_, rfl⟩, ?_⟩ | refine ⟨fun _ => ?_, fun h => absurd h (by decide)⟩ | refine ⟨fun h => absurd h (by decide), fun _ => ?_⟩)
      refine mg_cn (c39y d 1) (by omega) ?_
      repeat (first | refine ⟨_, mg_Fs rfl rfl, ?_⟩ | refine ⟨Or.inl rfl, ?_⟩ | refine ⟨Or.inr ⟨_, rfl⟩, ?_⟩ | refine ⟨fun _ => ?_, fun h => absurd h (by decide)⟩ | refine ⟨fun h => absurd h (by decide), fun _ => ?_⟩)
      refine ⟨_, mg_Fe h7 rfl rfl, ?_⟩
      repeat (first | refine ⟨_, mg_Fs rfl rfl, ?_⟩ | refine ⟨Or.inl rfl, ?_⟩ | refine ⟨Or.inr ⟨_, rfl⟩, ?_⟩ | refine ⟨fun _ => ?_, fun h => absurd h (by decide)⟩ | refine ⟨fun h => absurd h (by decide), fun _ => ?_⟩)
      refine mg_cv (k69) (by omega) ?_
      repeat (first | refine ⟨_, mg_Fs rfl rfl, ?_⟩ | refine ⟨Or.inl rfl, ?_⟩ | refine ⟨Or.inr ⟨_, rfl⟩, ?_⟩ | refine ⟨fun _ => ?_, fun h => absurd h (by decide)⟩ | refine ⟨fun h => absurd h (by decide), fun _ => ?_⟩)
      refine ⟨_, mg_Fe h7 rfl rfl, ?_⟩
      repeat (first | refine ⟨_, mg_Fs rfl rfl, ?_⟩ | refine ⟨Or.inl rfl, ?_⟩ | refine ⟨Or.inr ⟨_, rfl⟩, ?_⟩ | refine ⟨fun _ => ?_, fun h => absurd h (by decide)⟩ | refine ⟨fun h => absurd h (by decide), fun _ => ?_⟩)
      refine mg_cv (k68) (by omega) ?_
      refine ⟨fun _ => ?_, fun q => absurd q (mg_n1 (by omega))⟩
      repeat (first | refine ⟨_, mg_Fs rfl rfl, ?_⟩ | refine ⟨Or.inl rfl, ?_⟩ | refine ⟨Or.inr ⟨_, rfl⟩, ?_⟩ | refine ⟨fun _ => ?_, fun h => absurd h (by decide)⟩ | refine ⟨fun h => absurd h (by decide), fun _ => ?_⟩)
      refine mg_cn (c39y d 3) (by omega) ?_
      refine ⟨fun q => absurd q (mg_n1 (by omega)), fun _ => ?_⟩
      repeat (first | refine ⟨_, mg_Fs rfl rfl, ?_⟩ | refine ⟨Or.inl rfl, ?_⟩ | refine ⟨Or.inr ⟨_, rfl⟩, ?_⟩ | refine ⟨fun _ => ?_, fun h => absurd h (by decide)⟩ | refine ⟨fun h => absurd h (by decide), fun _ => ?_⟩)
      refine mg_cn (c80 d row v kc_t3 hw h4 (by omega) (by omega)) (by omega) ?_
      exact tail _ _ (fun w hw2 => (a_wd4 _ w (by omega)).symm) _ _
    | none =>
      rw [hv] at h k69
      cases hf : k_f A l p with
      | some f =>
        have hf2 : f < aF A := k_at_lt hf
        have h12 := hW.2.2.1
        rw [hf] at k68
        have h : some (.inr (aT A f, k_E l p)) = some r := by rw [← h, hf]
        cases h
        refine mg_me [140] 80 my_57 ms_57 (Nat.le_of_ble_eq_true rfl) ?_
        repeat (first | refine ⟨_, mg_Fs rfl rfl, ?_⟩ | refine ⟨Or.inl rfl, ?_⟩ | refine ⟨Or.inr ⟨_, rfl⟩, ?_⟩ | refine ⟨fun _ => ?_, fun h => absurd h (by decide)⟩ | refine ⟨fun h => absurd h (by decide), fun _ => ?_⟩)
        refine mg_cv (kb) (by omega) ?_
        refine ⟨fun _ => ?_, fun q => absurd rfl q⟩
        repeat (first | refine ⟨_, mg_Fs rfl rfl, ?_⟩ | refine ⟨Or.inl rfl, ?_⟩ | refine ⟨Or.inr ⟨_, rfl⟩, ?_⟩ | refine ⟨fun _ => ?_, fun h => absurd h (by decide)⟩ | refine ⟨fun h => absurd h (by decide), fun _ => ?_⟩)
        refine mg_cv (kn) (by omega) ?_
        refine ⟨fun _ => ?_, fun q => absurd q (by decide)⟩
        repeat (first | refine ⟨_, mg_Fs rfl rfl, ?_⟩ | refine ⟨Or.inl rfl, ?_⟩ | refine ⟨Or.inr ⟨_, rfl⟩, ?_⟩ | refine ⟨fun _ => ?_, fun h => absurd h (by decide)⟩ | refine ⟨fun h => absurd h (by decide), fun _ => ?_⟩)
        refine mg_cn (c39y d 1) (by omega) ?_
        repeat (first | refine ⟨_, mg_Fs rfl rfl, ?_⟩ | refine ⟨Or.inl rfl, ?_⟩ | refine ⟨Or.inr ⟨_, rfl⟩, ?_⟩ | refine ⟨fun _ => ?_, fun h => absurd h (by decide)⟩ | refine ⟨fun h => absurd h (by decide), fun _ => ?_⟩)
        refine ⟨_, mg_Fe h7 rfl rfl, ?_⟩
        repeat (first | refine ⟨_, mg_Fs rfl rfl, ?_⟩ | refine ⟨Or.inl rfl, ?_⟩ | refine ⟨Or.inr ⟨_, rfl⟩, ?_⟩ | refine ⟨fun _ => ?_, fun h => absurd h (by decide)⟩ | refine ⟨fun h => absurd h (by decide), fun _ => ?_⟩)
        refine mg_cv (k69) (by omega) ?_
        repeat (first | refine ⟨_, mg_Fs rfl rfl, ?_⟩ | refine ⟨Or.inl rfl, ?_⟩ | refine ⟨Or.inr ⟨_, rfl⟩, ?_⟩ | refine ⟨fun _ => ?_, fun h => absurd h (by decide)⟩ | refine ⟨fun h => absurd h (by decide), fun _ => ?_⟩)
        refine ⟨_, mg_Fe h7 rfl rfl, ?_⟩
        repeat (first | refine ⟨_, mg_Fs rfl rfl, ?_⟩ | refine ⟨Or.inl rfl, ?_⟩ | refine ⟨Or.inr ⟨_, rfl⟩, ?_⟩ | refine ⟨fun _ => ?_, fun h => absurd h (by decide)⟩ | refine ⟨fun h => absurd h (by decide), fun _ => ?_⟩)
        refine mg_cv (k68) (by omega) ?_
        refine ⟨fun q => absurd rfl q, fun _ => ⟨fun _ => ?_, fun q => absurd q (mg_n1 (by omega))⟩⟩
        repeat (first | refine ⟨_, mg_Fs rfl rfl, ?_⟩ | refine ⟨Or.inl rfl, ?_⟩ | refine ⟨Or.inr ⟨_, rfl⟩, ?_⟩ | refine ⟨fun _ => ?_, fun h => absurd h (by decide)⟩ | refine ⟨fun h => absurd h (by decide), fun _ => ?_⟩)
        refine mg_cn (c39y d 3) (by omega) ?_
        refine ⟨fun _ => ?_, fun q => absurd rfl q⟩
        repeat (first | refine ⟨_, mg_Fs rfl rfl, ?_⟩ | refine ⟨Or.inl rfl, ?_⟩ | refine ⟨Or.inr ⟨_, rfl⟩, ?_⟩ | refine ⟨fun _ => ?_, fun h => absurd h (by decide)⟩ | refine ⟨fun h => absurd h (by decide), fun _ => ?_⟩)
        refine mg_cn (c81 d row f 5 6 56 kc_t3 kc_s2.T hw h4 (by omega) (by omega)) (by omega) ?_
        exact tail _ _ (fun w hw2 => hS.2.2.2.1 f hf2 w hw2) _ _
      | none =>
        rw [hf] at k68
        have h : zErr 3 l p = some r := by rw [← h, hf]
        cases h
        refine mg_me [140] 80 my_57 ms_57 (Nat.le_of_ble_eq_true rfl) ?_
        repeat (first | refine ⟨_, mg_Fs rfl rfl, ?_⟩ | refine ⟨Or.inl rfl, ?_⟩ | refine ⟨Or.inr ⟨_, rfl⟩, ?_⟩ | refine ⟨fun _ => ?_, fun h => absurd h (by decide)⟩ | refine ⟨fun h => absurd h (by decide), fun _ => ?_⟩)
        refine mg_cv (kb) (by omega) ?_
        refine ⟨fun _ => ?_, fun q => absurd rfl q⟩
        repeat (first | refine ⟨_, mg_Fs rfl rfl, ?_⟩ | refine ⟨Or.inl rfl, ?_⟩ | refine ⟨Or.inr ⟨_, rfl⟩, ?_⟩ | refine ⟨fun _ => ?_, fun h => absurd h (by decide)⟩ | refine ⟨fun h => absurd h (by decide), fun _ => ?_⟩)
        refine mg_cv (kn) (by omega) ?_
        refine ⟨fun _ => ?_, fun q => absurd q (by decide)⟩
        repeat (first | refine ⟨_, mg_Fs rfl rfl, ?_⟩ | refine ⟨Or.inl rfl, ?_⟩ | refine ⟨Or.inr ⟨_, rfl⟩, ?_⟩ | refine ⟨fun _ => ?_, fun h => absurd h (by decide)⟩ | refine ⟨fun h => absurd h (by decide), fun _ => ?_⟩)
        refine mg_cn (c39y d 1) (by omega) ?_
        repeat (first | refine ⟨_, mg_Fs rfl rfl, ?_⟩ | refine ⟨Or.inl rfl, ?_⟩ | refine ⟨Or.inr ⟨_, rfl⟩, ?_⟩ | refine ⟨fun _ => ?_, fun h => absurd h (by decide)⟩ | refine ⟨fun h => absurd h (by decide), fun _ => ?_⟩)
        refine ⟨_, mg_Fe h7 rfl rfl, ?_⟩
        repeat (first | refine ⟨_, mg_Fs rfl rfl, ?_⟩ | refine ⟨Or.inl rfl, ?_⟩ | refine ⟨Or.inr ⟨_, rfl⟩, ?_⟩ | refine ⟨fun _ => ?_, fun h => absurd h (by decide)⟩ | refine ⟨fun h => absurd h (by decide), fun _ => ?_⟩)
        refine mg_cv (k69) (by omega) ?_
        repeat (first | refine ⟨_, mg_Fs rfl rfl, ?_⟩ | refine ⟨Or.inl rfl, ?_⟩ | refine ⟨Or.inr ⟨_, rfl⟩, ?_⟩ | refine ⟨fun _ => ?_, fun h => absurd h (by decide)⟩ | refine ⟨fun h => absurd h (by decide), fun _ => ?_⟩)
        refine ⟨_, mg_Fe h7 rfl rfl, ?_⟩
        repeat (first | refine ⟨_, mg_Fs rfl rfl, ?_⟩ | refine ⟨Or.inl rfl, ?_⟩ | refine ⟨Or.inr ⟨_, rfl⟩, ?_⟩ | refine ⟨fun _ => ?_, fun h => absurd h (by decide)⟩ | refine ⟨fun h => absurd h (by decide), fun _ => ?_⟩)
        refine mg_cv (k68) (by omega) ?_
        refine ⟨fun q => absurd rfl q, fun _ => ⟨fun q => absurd rfl q, fun _ => ?_⟩⟩
        repeat (first | refine ⟨_, mg_Fs rfl rfl, ?_⟩ | refine ⟨Or.inl rfl, ?_⟩ | refine ⟨Or.inr ⟨_, rfl⟩, ?_⟩ | refine ⟨fun _ => ?_, fun h => absurd h (by decide)⟩ | refine ⟨fun h => absurd h (by decide), fun _ => ?_⟩)
        refine mg_m_mono (c39x d hk 3) (by omega) ?_
        rintro o q G1 ⟨rfl, rfl, rfl⟩
        exact yE_x (mg_fr.rf _ _)
  · rw [if_neg h1] at h
    cases hb : k_bit l p with
    | true =>
      rw [if_pos hb] at h
      cases h
      rw [hb] at kb
      have h2 := (of_decide_eq_true hb).1
      have hN9 := k_N_lt hp h2
      have k5 := hk.2.2.2.2.1 h2
      refine mg_me [140] 80 my_57 ms_57 (Nat.le_of_ble_eq_true rfl) ?_
      repeat (first | refine ⟨_, mg_Fs rfl rfl, ?_⟩ | refine ⟨Or.inl rfl, ?_⟩ | refine ⟨Or.inr ⟨_, rfl⟩, ?_⟩ | refine ⟨fun _ => ?_, fun h => absurd h (by decide)⟩ | refine ⟨fun h => absurd h (by decide), fun _ => ?_⟩)
      refine mg_cv (kb) (by omega) ?_
      refine ⟨fun q => absurd q (by decide), fun _ => ?_⟩
      repeat (first | refine ⟨_, mg_Fs rfl rfl, ?_⟩ | refine ⟨Or.inl rfl, ?_⟩ | refine ⟨Or.inr ⟨_, rfl⟩, ?_⟩ | refine ⟨fun _ => ?_, fun h => absurd h (by decide)⟩ | refine ⟨fun h => absurd h (by decide), fun _ => ?_⟩)
      refine ⟨_, mg_Fe k5 rfl rfl, fun q => ?_, fun q => ?_⟩
      · have q : ¬ k_N l p = 1 := fun z => q (by rw [z]; rfl)
        repeat (first | refine ⟨_, mg_Fs rfl rfl, ?_⟩ | refine ⟨Or.inl rfl, ?_⟩ | refine ⟨Or.inr ⟨_, rfl⟩, ?_⟩ | refine ⟨fun _ => ?_, fun h => absurd h (by decide)⟩ | refine ⟨fun h => absurd h (by decide), fun _ => ?_⟩)
        refine mg_cn (c79 d row kc_t3 0 hw (by omega)) (by omega) ?_
        refine tail _ _ (fun w hw2 => ?_) _ _
        rw [decide_eq_false q]
        show (if (0 : Int32) = 0 then (0 : Int64) else -1) = a_wd a_zero w
        rw [if_pos rfl]
        rcases (show w = 0 ∨ w = 1 ∨ w = 2 ∨ w = 3 by omega) with rfl | rfl | rfl | rfl <;> rfl
      · have q := (mg_eqN (b := 1) (by omega) (by decide)).mp q
        repeat (first | refine ⟨_, mg_Fs rfl rfl, ?_⟩ | refine ⟨Or.inl rfl, ?_⟩ | refine ⟨Or.inr ⟨_, rfl⟩, ?_⟩ | refine ⟨fun _ => ?_, fun h => absurd h (by decide)⟩ | refine ⟨fun h => absurd h (by decide), fun _ => ?_⟩)
        refine mg_cn (c79 d row kc_t3 1 hw (by omega)) (by omega) ?_
        refine tail _ _ (fun w hw2 => ?_) _ _
        rw [decide_eq_true q]
        show (if (1 : Int32) = 0 then (0 : Int64) else -1) = a_wd a_one w
        rw [if_neg (by decide)]
        rcases (show w = 0 ∨ w = 1 ∨ w = 2 ∨ w = 3 by omega) with rfl | rfl | rfl | rfl <;> rfl
    | false =>
      rw [if_neg (by rw [hb]; decide)] at h
      cases h
      have hnm : k_nm l p = false := by unfold k_nm; rw [decide_eq_false h1]; rfl
      rw [hb] at kb
      rw [hnm] at kn
      refine mg_me [140] 80 my_57 ms_57 (Nat.le_of_ble_eq_true rfl) ?_
      repeat (first | refine ⟨_, mg_Fs rfl rfl, ?_⟩ | refine ⟨Or.inl rfl, ?_⟩ | refine ⟨Or.inr ⟨_, rfl⟩, ?_⟩ | refine ⟨fun _ => ?_, fun h => absurd h (by decide)⟩ | refine ⟨fun h => absurd h (by decide), fun _ => ?_⟩)
      refine mg_cv (kb) (by omega) ?_
      refine ⟨fun _ => ?_, fun q => absurd rfl q⟩
      repeat (first | refine ⟨_, mg_Fs rfl rfl, ?_⟩ | refine ⟨Or.inl rfl, ?_⟩ | refine ⟨Or.inr ⟨_, rfl⟩, ?_⟩ | refine ⟨fun _ => ?_, fun h => absurd h (by decide)⟩ | refine ⟨fun h => absurd h (by decide), fun _ => ?_⟩)
      refine mg_cv (kn) (by omega) ?_
      refine ⟨fun q => absurd rfl q, fun _ => ?_⟩
      repeat (first | refine ⟨_, mg_Fs rfl rfl, ?_⟩ | refine ⟨Or.inl rfl, ?_⟩ | refine ⟨Or.inr ⟨_, rfl⟩, ?_⟩ | refine ⟨fun _ => ?_, fun h => absurd h (by decide)⟩ | refine ⟨fun h => absurd h (by decide), fun _ => ?_⟩)
      refine mg_m_mono (c39x d hk 1) (by omega) ?_
      rintro o q G1 ⟨rfl, rfl, rfl⟩
      exact yE_x (mg_fr.rf _ _)
end KC
