def yIH (scr : Nat × (Nat → Int32)) (t : List mg_S) (A : a_A) (l : List Nat) (n : Nat) : Prop :=
  (∀ lvl o row p pc r G, lvl ≤ 5 → o ≤ 20 → p ≤ l.length → row ≤ 7 * o + lvl → pc ≤ p → yI G A l p pc → zP A l n lvl none o p = some r → ∀ d, mg_m (mg_KC scr t) (d + 8 * (20 - o) + (7 - lvl) + 12) 50 [.ref 3, .int (Int32.ofNat lvl), .int (Int32.ofNat o), .int (Int32.ofNat row)] G (yQ G A l row pc r)) ∧
  (∀ lvl o row p pc T r G i lim, lvl < 5 → o ≤ 20 → p ≤ l.length → row ≤ 7 * o + lvl → pc ≤ p → yI G A l p pc → cRow G 28 row (a_wds (aV A)) T → zP A l n lvl (some T) o p = some r → i ≤ p → (lvl = 1 → i = 0 ∧ lim = 1) → (lvl ≠ 1 → lim = 600) → ∀ d, mg_wp (mg_KC scr t) mc_50 (d + 8 * (20 - o) + (6 - lvl) + 12) 46 [some (.ref 3), some (.int (Int32.ofNat lvl)), some (.int (Int32.ofNat o)), some (.int (Int32.ofNat row)), some (.int lim), some (.int (Int32.ofNat i))] [] G (yQ G A l row pc r)) ∧
  (∀ o row p pc xs r G0 G p0, o ≤ 20 → p ≤ l.length → row ≤ 7 * o + 5 → pc + xs.length ≤ p → yI G0 A l p0 pc → yH G0 G A l row pc p xs → zP A l n 5 none o p = some r → ∀ d, mg_wp (mg_KC scr t) mc_51 (d + 8 * (20 - o) + 12) 24 [some (.ref 3), some (.int (Int32.ofNat o)), some (.int (Int32.ofNat row)), some (.int (Int32.ofNat pc))] [] G (yQ G0 A l row pc (yM xs r)))
theorem k_op3 : ∀ lvl, lvl < 5 → (k_op lvl = 3 ↔ lvl = 1) := by decide
theorem k_sg37 : ∀ lvl, lvl < 5 → (k_str 37).getD lvl 0 = k_sg lvl ∧ k_sg lvl < 128 := by decide
section KC
variable {scr : Nat × (Nat → Int32)} {t : List mg_S} {A : a_A} {l : List Nat} {n o p pc row : Nat} {r : zEr ⊕ (a_T × Nat)} {G : mg_G}
/-- the level below, then the operators of this one -/
theorem yFa (ih : yIH scr t A l n) (hW : aW A) {lvl : Nat} (hl : lvl < 5) (ho : o ≤ 20) (hp : p ≤ l.length) (hrow : row ≤ 7 * o + lvl) (hpc : pc ≤ p) (hI : yI G A l p pc) (h : zP A l (n + 1) lvl none o p = some r) (d : Nat) : mg_m (mg_KC scr t) (d + 8 * (20 - o) + (7 - lvl) + 12) 50 [.ref 3, .int (Int32.ofNat lvl), .int (Int32.ofNat o), .int (Int32.ofNat row)] G (yQ G A l row pc r) := by
  have h : zB (zP A l n (lvl + 1) none o p) (fun T q => zP A l n lvl (some T) o q) = some r := by
    rw [← h]
    simp only [zP]
    rw [if_pos hl]
  have k1 := j331 (K := mg_KC scr t) (G := G) d (a := 37) (by unfold k_ok; omega)
  rw [show (k_str 37).length = 5 from by decide] at k1
  have hop := k_op3 lvl hl
  have e0 : d + 8 * (20 - o) + (7 - lvl) + 12 = (d + 8 * (20 - o) + (6 - lvl) + 12) + 1 := by omega
  rw [e0]
  rcases zB_s h with ⟨e, g1, rfl⟩ | ⟨T, q, g1, g2⟩
  · have k2 := ih.1 (lvl + 1) o row p pc _ G (by omega) ho hp (by omega) hpc hI g1 d
    rw [← mg_inc lvl] at k2
    refine mg_me [46] 60 my_50 ms_50 (Nat.le_of_ble_eq_true rfl) ?_
    repeat (first | refine ⟨_, mg_Fs rfl rfl, ?_⟩ | refine ⟨Or.inl rfl, ?_⟩ | refine ⟨Or.inr ⟨_, rfl⟩, ?_⟩ | refine ⟨fun _ => ?_, fun h => absurd h (by decide)⟩ | refine ⟨fun h => absurd h (by decide), fun _ => ?_⟩)
    refine ⟨Or.inr (jr (a := 37) (by unfold k_ok; omega) _), mg_cv k1 (by omega) ?_⟩
    refine ⟨fun _ => ?_, fun q => absurd q (mg_nle (b := 5) hl (by decide))⟩
    repeat (first | refine ⟨_, mg_Fs rfl rfl, ?_⟩ | refine ⟨Or.inl rfl, ?_⟩ | refine ⟨Or.inr ⟨_, rfl⟩, ?_⟩ | refine ⟨fun _ => ?_, fun h => absurd h (by decide)⟩ | refine ⟨fun h => absurd h (by decide), fun _ => ?_⟩)
    refine mg_m_mono (k2) (by omega) ?_
    rintro o1 q1 G1 w
    obtain ⟨rfl, rfl, w2⟩ := (hI.Z row pc).e (row' := row) w
    exact w2
  · obtain ⟨m1, m2, m3, m4⟩ := zP_okn hW hp g1
    have k2 := ih.1 (lvl + 1) o row p pc _ G (by omega) ho hp (by omega) hpc hI g1 d
    rw [← mg_inc lvl] at k2
    refine mg_me [46] 60 my_50 ms_50 (Nat.le_of_ble_eq_true rfl) ?_
    repeat (first | refine ⟨_, mg_Fs rfl rfl, ?_⟩ | refine ⟨Or.inl rfl, ?_⟩ | refine ⟨Or.inr ⟨_, rfl⟩, ?_⟩ | refine ⟨fun _ => ?_, fun h => absurd h (by decide)⟩ | refine ⟨fun h => absurd h (by decide), fun _ => ?_⟩)
    refine ⟨Or.inr (jr (a := 37) (by unfold k_ok; omega) _), mg_cv k1 (by omega) ?_⟩
    refine ⟨fun _ => ?_, fun q => absurd q (mg_nle (b := 5) hl (by decide))⟩
    repeat (first | refine ⟨_, mg_Fs rfl rfl, ?_⟩ | refine ⟨Or.inl rfl, ?_⟩ | refine ⟨Or.inr ⟨_, rfl⟩, ?_⟩ | refine ⟨fun _ => ?_, fun h => absurd h (by decide)⟩ | refine ⟨fun h => absurd h (by decide), fun _ => ?_⟩)
    refine mg_m_mono (k2) (by omega) ?_
    rintro o1 q1 G1 w
    obtain ⟨rfl, rfl, hZ, hT, hK⟩ := (hI.Z row pc).q w (Nat.le_refl _) (Nat.le_refl _)
    have go : ∀ lim, (lvl = 1 → (0 : Nat) = 0 ∧ lim = 1) → (lvl ≠ 1 → lim = 600) → mg_wp (mg_KC scr t) mc_50 (d + 8 * (20 - o) + (6 - lvl) + 12) 46 [some (.ref 3), some (.int (Int32.ofNat lvl)), some (.int (Int32.ofNat o)), some (.int (Int32.ofNat row)), some (.int lim), some (.int (Int32.ofNat 0))] [] G1 (yQ G A l row pc r) := fun lim a b => by
      refine mg_wp_mono (ih.2.1 lvl o row q pc T r G1 0 lim hl ho m2 hrow (by omega) (hZ.I hI) hT g2 (Nat.zero_le _) a b d) ?_
      rintro o2 q2 G2 w2
      cases r with
      | inl e =>
        obtain ⟨rfl, rfl, w3⟩ := hZ.e (row' := row) w2
        exact w3
      | inr x =>
        obtain ⟨rfl, rfl, hZ2, hT2, -⟩ := hZ.q (T := x.1) (u' := x.2) w2 (Nat.le_refl _) (Nat.le_refl _)
        exact hZ2.Q hT2
    refine ⟨5, _, lvl, mg_Ao (mm_oldS _ _) (by decide), mg_ixN (by omega), hl, fun z => ?_, fun z => ?_⟩
    · have z : ¬ k_op lvl = 3 := z
      exact go _ (fun e => absurd (hop.mpr e) z) (fun _ => rfl)
    · have z : k_op lvl = 3 := z
      exact go _ (fun _ => ⟨rfl, rfl⟩) (fun e => absurd (hop.mp z) e)
/-- the operators of a level -/
theorem yFb (ih : yIH scr t A l n) (hW : aW A) {lvl i : Nat} {lim : Int32} {T : a_T} (hl : lvl < 5) (ho : o ≤ 20) (hp : p ≤ l.length) (hrow : row ≤ 7 * o + lvl) (hpc : pc ≤ p) (hI : yI G A l p pc) (hT : cRow G 28 row (a_wds (aV A)) T) (h : zP A l (n + 1) lvl (some T) o p = some r) (hi : i ≤ p) (h1 : lvl = 1 → i = 0 ∧ lim = 1) (h6 : lvl ≠ 1 → lim = 600) (d : Nat) : mg_wp (mg_KC scr t) mc_50 (d + 8 * (20 - o) + (6 - lvl) + 12) 46 [some (.ref 3), some (.int (Int32.ofNat lvl)), some (.int (Int32.ofNat o)), some (.int (Int32.ofNat row)), some (.int lim), some (.int (Int32.ofNat i))] [] G (yQ G A l row pc r) := by
  have h : (if k_is l p (k_sg lvl) = true then zB (zP A l n (lvl + 1) none o (k_E l p)) (fun U q => if lvl = 1 then some (.inr (a_op (k_op lvl) T U, q)) else zP A l n lvl (some (a_op (k_op lvl) T U)) o q) else some (.inr (T, p))) = some r := h
  have hN := hI.2.2.1
  have hk := hI.2.2.2.2.1
  have hl6 := hN.2.1
  have h8 : aV A ≤ 8 := hW.2.1.2.2.2
  obtain ⟨hn, -⟩ := a_wds_i (aV A) h8
  have h4 : a_wds (aV A) ≤ 4 := by omega
  have hE := k_E_le hp
  have hS := k_S_ge l p
  obtain ⟨s1, s2⟩ := k_sg37 lvl hl
  have k1 := j332 (K := mg_KC scr t) (G := G) d (a := 37) (by unfold k_ok; omega) (i := lvl) (by rw [show (k_str 37).length = 5 from by decide]; exact hl)
  rw [s1] at k1
  have k2 := c94 (scr := scr) (t := t) d hN hk s2
  cases hs : k_is l p (k_sg lvl) with
  | false =>
    rw [hs, if_neg (by decide)] at h
    cases h
    rw [hs] at k2
    refine mg_go [] 60 46 ms_50 ?_
    refine ⟨fun _ => (hI.Z row pc).Q hT, fun _ => ?_⟩
    repeat (first | refine ⟨_, mg_Fs rfl rfl, ?_⟩ | refine ⟨Or.inl rfl, ?_⟩ | refine ⟨Or.inr ⟨_, rfl⟩, ?_⟩ | refine ⟨fun _ => ?_, fun h => absurd h (by decide)⟩ | refine ⟨fun h => absurd h (by decide), fun _ => ?_⟩)
    refine ⟨Or.inr (jr (a := 37) (by unfold k_ok; omega) _), mg_cv k1 (by omega) ?_⟩
    repeat (first | refine ⟨_, mg_Fs rfl rfl, ?_⟩ | refine ⟨Or.inl rfl, ?_⟩ | refine ⟨Or.inr ⟨_, rfl⟩, ?_⟩ | refine ⟨fun _ => ?_, fun h => absurd h (by decide)⟩ | refine ⟨fun h => absurd h (by decide), fun _ => ?_⟩)
    refine mg_cv (k2) (by omega) ?_
    exact ⟨fun _ => (hI.Z row pc).Q hT, fun q => absurd rfl q⟩
  | true =>
    rw [hs, if_pos rfl] at h
    rw [hs] at k2
    have hlt := k_is_E hs
    have hlim : i < 600 ∧ ¬ lim ≤ Int32.ofNat i := by
      refine ⟨by omega, ?_⟩
      by_cases e : lvl = 1
      · rw [(h1 e).1, (h1 e).2]
        decide
      · rw [h6 e]
        exact mg_nle (b := 600) (by omega) (by decide)
    have st : ∀ Q : mg_Q, (∀ G1, yZ G G1 l row pc pc (k_E l p) → cRow G1 28 row (a_wds (aV A)) T → mg_m (mg_KC scr t) (d + 8 * (20 - o) + (6 - lvl) + 12) 50 [.ref 3, .int (Int32.ofNat (lvl + 1)), .int (Int32.ofNat o), .int (Int32.ofNat (row + 1))] G1 (fun o2 k2 G2 => (o2 = .inl none ∧ k2 = 0 ∧ mg_wp (mg_KC scr t) mc_50 (d + 8 * (20 - o) + (6 - lvl) + 12) 87 [some (.ref 3), some (.int (Int32.ofNat lvl)), some (.int (Int32.ofNat o)), some (.int (Int32.ofNat row)), some (.int lim), some (.int (Int32.ofNat i))] [] G2 Q) ∨ ∃ E, o2 = .inr E ∧ Q (.inr E) k2 G2)) → mg_wp (mg_KC scr t) mc_50 (d + 8 * (20 - o) + (6 - lvl) + 12) 46 [some (.ref 3), some (.int (Int32.ofNat lvl)), some (.int (Int32.ofNat o)), some (.int (Int32.ofNat row)), some (.int lim), some (.int (Int32.ofNat i))] [] G Q := fun Q g => by
      refine mg_go [87] 60 46 ms_50 ?_
      refine ⟨fun q => absurd q hlim.2, fun _ => ?_⟩
      repeat (first | refine ⟨_, mg_Fs rfl rfl, ?_⟩ | refine ⟨Or.inl rfl, ?_⟩ | refine ⟨Or.inr ⟨_, rfl⟩, ?_⟩ | refine ⟨fun _ => ?_, fun h => absurd h (by decide)⟩ | refine ⟨fun h => absurd h (by decide), fun _ => ?_⟩)
      refine ⟨Or.inr (jr (a := 37) (by unfold k_ok; omega) _), mg_cv k1 (by omega) ?_⟩
      repeat (first | refine ⟨_, mg_Fs rfl rfl, ?_⟩ | refine ⟨Or.inl rfl, ?_⟩ | refine ⟨Or.inr ⟨_, rfl⟩, ?_⟩ | refine ⟨fun _ => ?_, fun h => absurd h (by decide)⟩ | refine ⟨fun h => absurd h (by decide), fun _ => ?_⟩)
      refine mg_cv (k2) (by omega) ?_
      refine ⟨fun q => absurd q (by decide), fun _ => ?_⟩
      repeat (first | refine ⟨_, mg_Fs rfl rfl, ?_⟩ | refine ⟨Or.inl rfl, ?_⟩ | refine ⟨Or.inr ⟨_, rfl⟩, ?_⟩ | refine ⟨fun _ => ?_, fun h => absurd h (by decide)⟩ | refine ⟨fun h => absurd h (by decide), fun _ => ?_⟩)
      refine mg_m_mono (c93 d hN hE hI.2.2.2.1 hk.1) (by omega) ?_
      rintro o1 q1 G1 ⟨rfl, rfl, w1, w2, w3⟩
      have g2 := g G1 ((hI.Z row pc).t w1 w2 w3) ((yK.tk (row := row + 1) (pc := pc) w3).row hT (by omega) h4)
      rw [← mg_inc lvl, ← mg_inc row] at g2
      repeat (first | refine ⟨_, mg_Fs rfl rfl, ?_⟩ | refine ⟨Or.inl rfl, ?_⟩ | refine ⟨Or.inr ⟨_, rfl⟩, ?_⟩ | refine ⟨fun _ => ?_, fun h => absurd h (by decide)⟩ | refine ⟨fun h => absurd h (by decide), fun _ => ?_⟩)
      refine mg_m_mono (g2) (by omega) ?_
      rintro o2 k2 G2 (⟨rfl, rfl, w⟩ | ⟨E, rfl, w⟩)
      · exact w
      · exact w
    refine st _ (fun G1 hZ1 hT1 => ?_)
    have hI1 := hZ1.I hI
    rcases zB_s h with ⟨e, g1, rfl⟩ | ⟨U, q, g1, g2⟩
    · refine mg_m_mono (ih.1 (lvl + 1) o (row + 1) (k_E l p) pc _ G1 (by omega) ho hE (by omega) (by omega) hI1 g1 d) (by omega) ?_
      rintro o2 q2 G2 w
      obtain ⟨rfl, rfl, w2⟩ := hZ1.e (row' := row + 1) w
      exact Or.inr ⟨_, rfl, w2⟩
    · obtain ⟨m1, m2, m3, m4⟩ := zP_okn hW hE g1
      refine mg_m_mono (ih.1 (lvl + 1) o (row + 1) (k_E l p) pc _ G1 (by omega) ho hE (by omega) (by omega) hI1 g1 d) (by omega) ?_
      rintro o2 q2 G2 w
      obtain ⟨rfl, rfl, hZ2, hU, hK2⟩ := hZ1.q w (by omega) (Nat.le_refl _)
      have hT2 := hK2.row hT1 (by omega) h4
      have hI2 := hZ2.I hI
      have k3 := c82 (K := mg_KC scr t) (G := G2) d row row (row + 1) kc_t3 (k_op lvl) hI2.2.2.2.2.2.1 h4 (by omega) (by omega) (by omega)
      rw [← mg_inc row] at k3
      have hT3 : cRow (cW G2 28 row (a_wds (aV A)) (fun w => a_comb (k_op lvl) (G2.2.1 28 (4 * row + w)) (G2.2.1 28 (4 * (row + 1) + w)))) 28 row (a_wds (aV A)) (a_op (k_op lvl) T U) := fun w hw => by
        rw [cW_in _ _ _ _ _ _ hw]
        show _ = a_wd (a_tb4 _) w
        rw [a_wd4 _ w (by omega), hT2 w hw, hU w hw]
      have hZ3 := hZ2.c (r := row) (k := a_wds (aV A)) (g := fun w => a_comb (k_op lvl) (G2.2.1 28 (4 * row + w)) (G2.2.1 28 (4 * (row + 1) + w))) (Nat.le_refl _)
      have st2 : ∀ Q : mg_Q, mg_wp (mg_KC scr t) mc_50 (d + 8 * (20 - o) + (6 - lvl) + 12) 46 [some (.ref 3), some (.int (Int32.ofNat lvl)), some (.int (Int32.ofNat o)), some (.int (Int32.ofNat row)), some (.int lim), some (.int (Int32.ofNat (i + 1)))] [] (cW G2 28 row (a_wds (aV A)) (fun w => a_comb (k_op lvl) (G2.2.1 28 (4 * row + w)) (G2.2.1 28 (4 * (row + 1) + w)))) Q → mg_wp (mg_KC scr t) mc_50 (d + 8 * (20 - o) + (6 - lvl) + 12) 87 [some (.ref 3), some (.int (Int32.ofNat lvl)), some (.int (Int32.ofNat o)), some (.int (Int32.ofNat row)), some (.int lim), some (.int (Int32.ofNat i))] [] G2 Q := fun Q g => by
        rw [← mg_inc i] at g
        refine mg_go [46] 60 87 ms_50 ?_
        repeat (first | refine ⟨_, mg_Fs rfl rfl, ?_⟩ | refine ⟨Or.inl rfl, ?_⟩ | refine ⟨Or.inr ⟨_, rfl⟩, ?_⟩ | refine ⟨fun _ => ?_, fun h => absurd h (by decide)⟩ | refine ⟨fun h => absurd h (by decide), fun _ => ?_⟩)
        refine ⟨5, _, lvl, mg_Ao (mm_oldS _ _) (by decide), mg_ixN (by omega), hl, ?_⟩
        repeat (first | refine ⟨_, mg_Fs rfl rfl, ?_⟩ | refine ⟨Or.inl rfl, ?_⟩ | refine ⟨Or.inr ⟨_, rfl⟩, ?_⟩ | refine ⟨fun _ => ?_, fun h => absurd h (by decide)⟩ | refine ⟨fun h => absurd h (by decide), fun _ => ?_⟩)
        refine mg_cn (k3) (by omega) ?_
        exact g
      refine Or.inl ⟨rfl, rfl, st2 _ ?_⟩
      by_cases e1 : lvl = 1
      · rw [if_pos e1] at g2
        cases g2
        refine mg_go [] 60 46 ms_50 ?_
        exact ⟨fun _ => hZ3.Q hT3, fun z => absurd (by rw [(h1 e1).1, (h1 e1).2]; decide) (Int32.not_le.mpr z)⟩
      · rw [if_neg e1] at g2
        refine mg_wp_mono (ih.2.1 lvl o row q pc _ r _ (i + 1) lim hl ho m2 hrow (by omega) (hZ3.I hI) hT3 g2 (by omega) (fun z => absurd z e1) h6 d) ?_
        rintro o3 q3 G3 w2
        cases r with
        | inl e =>
          obtain ⟨rfl, rfl, w3⟩ := hZ3.e (row' := row) w2
          exact w3
        | inr x =>
          obtain ⟨rfl, rfl, hZ4, hT4, -⟩ := hZ3.q (T := x.1) (u' := x.2) w2 (Nat.le_refl _) (Nat.le_refl _)
          exact hZ4.Q hT4
end KC
