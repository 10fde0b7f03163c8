section KC
variable {scr : Nat × (Nat → Int32)} {t : List mg_S} {A : a_A} {l : List Nat} {n o p pc row : Nat} {r : zEr ⊕ (a_T × Nat)} {G G0 : mg_G}
theorem yFs (ih : yIH scr t A l n) (hW : aW A) {xs : List yPx} {p0 : Nat} (ho : o ≤ 20) (hp : p ≤ l.length) (hrow : row ≤ 7 * o + 5) (hpc : pc + xs.length ≤ p) (hI0 : yI G0 A l p0 pc) (hH : yH G0 G A l row pc p xs) (h : zP A l (n + 1) 5 none o p = some r) (d : Nat) : mg_wp (mg_KC scr t) mc_51 (d + 8 * (20 - o) + 12) 24 [some (.ref 3), some (.int (Int32.ofNat o)), some (.int (Int32.ofNat row)), some (.int (Int32.ofNat pc))] [] G (yQ G0 A l row pc (yM xs r)) := by
  have hE := k_E_le hp
  have hEE := k_E_le hE
  have hS := k_S_ge l p
  have hSE := k_E_ge l p
  have hS2 := k_S_ge l (k_E l p)
  have hSE2 := k_E_ge l (k_E l p)
  have hK4 := k_K4 l p
  have hI := hH.1.I hI0
  have hN := hI.2.2.1
  have hk := hI.2.2.2.2.1
  have hB := hI.2.2.2.1
  have h5 := hH.1.2.2.2
  have hl6 := hN.2.1
  have h8 : aV A ≤ 8 := hW.2.1.2.2.2
  have h : (if k_is l p 33 = true then zB (zP A l n 5 none o (k_E l p)) (fun T q => some (.inr (a_not T, q)))
      else if (k_wd l p w_all || k_wd l p w_some) = true then (if k_nm l (k_E l p) = true then (match k_v A l (k_E l p) with
          | none => zErr 3 l (k_E l p)
          | some v => zB (zP A l n 5 none o (k_E l (k_E l p))) (fun T q => some (.inr (a_qu (k_wd l p w_all) v T, q))))
        else zErr 1 l (k_E l p))
      else if k_wd l p w_if = true then (if k_is l (k_E l p) 40 = true then (if o = 20 then zErr 5 l (k_E l p) else
          zB (zP A l n 0 none (o + 1) (k_E l (k_E l p))) (fun c q => if k_is l q 44 = true then zB (zP A l n 0 none (o + 1) (k_E l q)) (fun x q => if k_is l q 44 = true then zB (zP A l n 0 none (o + 1) (k_E l q)) (fun y q => if k_is l q 41 = true then some (.inr (a_sel c x y, k_E l q)) else zErr 1 l q) else zErr 1 l q) else zErr 1 l q))
        else zErr 1 l (k_E l p))
      else if k_is l p 40 = true then (if o = 20 then zErr 5 l p else zB (zP A l n 0 none (o + 1) (k_E l p)) (fun T q => if k_is l q 41 = true then some (.inr (T, k_E l q)) else zErr 1 l q))
      else if k_K l p = 1 then (match k_v A l p with
        | some v => some (.inr (a_var v, k_E l p))
        | none => match k_f A l p with
          | some f => some (.inr (aT A f, k_E l p))
          | none => zErr 3 l p)
      else if k_bit l p = true then some (.inr (z_cst (decide (k_N l p = 1)), k_E l p))
      else zErr 1 l p) = some r := h
  have kpre := c52 (scr := scr) (t := t) d hN hk hp
  -- one more prefix
  have pre : ∀ (x : yPx) (p' : Nat), p' ≤ l.length → p < p' → (∀ b v, x = some (b, v) → v < aV A) → ∀ r', zP A l n 5 none o p' = some r' → yM xs r = yM (xs ++ [x]) r' → (k_is l p 33 || (k_wd l p w_all || k_wd l p w_some)) = true → mg_m (mg_KC scr t) (d + 8 * (20 - o) + 12) 53 [.ref 3] G (fun o1 q1 G1 => o1 = .inl (some (.int (Int32.ofNat (yPn x)))) ∧ q1 = 0 ∧ ckB G1 l ∧ ck G1 l p' ∧ cTf G G1) → mg_wp (mg_KC scr t) mc_51 (d + 8 * (20 - o) + 12) 24 [some (.ref 3), some (.int (Int32.ofNat o)), some (.int (Int32.ofNat row)), some (.int (Int32.ofNat pc))] [] G (yQ G0 A l row pc (yM xs r)) := fun x p' hp' hlt hx r' hz hr hb k53 => by
    rw [hb] at kpre
    rw [hr]
    refine mg_go [24] 60 24 ms_51 ?_
    refine ⟨_, mg_Fe h5 rfl rfl, fun q => absurd q (mg_nle (b := 600) (by omega) (by decide)), fun _ => ?_⟩
    repeat (first | refine ⟨_, mg_Fs rfl rfl, ?_⟩ | refine ⟨Or.inl rfl, ?_⟩ | refine ⟨Or.inr ⟨_, rfl⟩, ?_⟩ | refine ⟨fun _ => ?_, fun h => absurd h (by decide)⟩ | refine ⟨fun h => absurd h (by decide), fun _ => ?_⟩)
    refine mg_cv (kpre) (by omega) ?_
    refine ⟨fun q => absurd q (by decide), fun _ => ?_⟩
    repeat (first | refine ⟨_, mg_Fs rfl rfl, ?_⟩ | refine ⟨Or.inl rfl, ?_⟩ | refine ⟨Or.inr ⟨_, rfl⟩, ?_⟩ | refine ⟨fun _ => ?_, fun h => absurd h (by decide)⟩ | refine ⟨fun h => absurd h (by decide), fun _ => ?_⟩)
    refine ⟨_, mg_Fe h5 rfl rfl, ?_⟩
    repeat (first | refine ⟨_, mg_Fs rfl rfl, ?_⟩ | refine ⟨Or.inl rfl, ?_⟩ | refine ⟨Or.inr ⟨_, rfl⟩, ?_⟩ | refine ⟨fun _ => ?_, fun h => absurd h (by decide)⟩ | refine ⟨fun h => absurd h (by decide), fun _ => ?_⟩)
    refine mg_m_mono (k53) (by omega) ?_
    rintro o1 q1 G1 ⟨rfl, rfl, w1, w2, w3⟩
    have hH1 := hH.s w1 w2 w3 x hx
    refine ⟨600, pc + xs.length, rfl, mg_ixN (by omega), by omega, ?_⟩
    have h51 : (mg_sI G1 29 (pc + xs.length) (Int32.ofNat (yPn x))).2.2.2.2 3 5 = .int (Int32.ofNat (pc + xs.length)) := (congrFun (w3 3 (by decide)).2.2.2.2 5).trans h5
    refine ⟨_, mg_Fe h51 rfl rfl, rfl, _, rfl, rfl, ?_⟩
    exact ih.2.2 o row p' pc (xs ++ [x]) r' G0 _ p0 ho hp' hrow (by rw [List.length_append]; show pc + (xs.length + 1) ≤ p'; omega) hI0 hH1 hz d
  cases b1 : k_is l p 33 with
  | true =>
    rw [if_pos b1] at h
    have hlt := k_is_E b1
    obtain ⟨r', g1, g2⟩ := yM_s (xs := xs) (x := none) h
    exact pre none _ hE (by omega) (fun _ _ z => nomatch z) r' g1 g2 (by rw [b1]; rfl) (mg_m_mono (c53n d hN hB hk hp b1) (by omega) (fun _ _ _ w => w))
  | false =>
  rw [if_neg (by rw [b1]; decide)] at h
  cases b2 : (k_wd l p w_all || k_wd l p w_some) with
  | true =>
    rw [if_pos b2] at h
    have hlt : k_S l p < k_E l p := by
      rw [Bool.or_eq_true] at b2
      exact b2.elim k_wd_E k_wd_E
    have er : ∀ e : zEr, r = .inl e → mg_m (mg_KC scr t) (d + 4) 53 [.ref 3] G (yE G e) → mg_wp (mg_KC scr t) mc_51 (d + 8 * (20 - o) + 12) 24 [some (.ref 3), some (.int (Int32.ofNat o)), some (.int (Int32.ofNat row)), some (.int (Int32.ofNat pc))] [] G (yQ G0 A l row pc (yM xs r)) := fun e hr k53 => by
      subst hr
      rw [b1, b2] at kpre
      refine mg_go [24] 60 24 ms_51 ?_
      refine ⟨_, mg_Fe h5 rfl rfl, fun q => absurd q (mg_nle (b := 600) (by omega) (by decide)), fun _ => ?_⟩
      repeat (first | refine ⟨_, mg_Fs rfl rfl, ?_⟩ | refine ⟨Or.inl rfl, ?_⟩ | refine ⟨Or.inr ⟨_, rfl⟩, ?_⟩ | refine ⟨fun _ => ?_, fun h => absurd h (by decide)⟩ | refine ⟨fun h => absurd h (by decide), fun _ => ?_⟩)
      refine mg_cv (kpre) (by omega) ?_
      refine ⟨fun q => absurd q (by decide), fun _ => ?_⟩
      repeat (first | refine ⟨_, mg_Fs rfl rfl, ?_⟩ | refine ⟨Or.inl rfl, ?_⟩ | refine ⟨Or.inr ⟨_, rfl⟩, ?_⟩ | refine ⟨fun _ => ?_, fun h => absurd h (by decide)⟩ | refine ⟨fun h => absurd h (by decide), fun _ => ?_⟩)
      refine ⟨_, mg_Fe h5 rfl rfl, ?_⟩
      repeat (first | refine ⟨_, mg_Fs rfl rfl, ?_⟩ | refine ⟨Or.inl rfl, ?_⟩ | refine ⟨Or.inr ⟨_, rfl⟩, ?_⟩ | refine ⟨fun _ => ?_, fun h => absurd h (by decide)⟩ | refine ⟨fun h => absurd h (by decide), fun _ => ?_⟩)
      refine mg_m_mono (k53) (by omega) ?_
      rintro o1 q1 G1 w
      obtain ⟨rfl, rfl, w2⟩ := hH.1.e (row' := row) (c' := pc) (A := A) w
      exact w2
    cases b3 : k_nm l (k_E l p) with
    | false =>
      rw [b3, if_neg (by decide)] at h
      cases h
      exact er _ rfl (c53x d hN hB hI.1 hW hk hp b1 (Or.inl ⟨b3, rfl⟩))
    | true =>
      rw [b3, if_pos rfl] at h
      cases hv : k_v A l (k_E l p) with
      | none =>
        rw [hv] at h
        cases h
        exact er _ rfl (c53x d hN hB hI.1 hW hk hp b1 (Or.inr ⟨b3, hv, rfl⟩))
      | some v =>
        rw [hv] at h
        obtain ⟨r', g1, g2⟩ := yM_s (xs := xs) (x := some (k_wd l p w_all, v)) h
        exact pre (some (k_wd l p w_all, v)) _ hEE (by omega) (fun b u z => by cases z; exact k_at_lt hv) r' g1 g2 (by rw [b1, b2]; rfl) (mg_m_mono (c53y d hN hB hI.1 hW hk hp b1 b3 hv) (by omega) (fun _ _ _ w => w))
  | false =>
  rw [if_neg (by rw [b2]; decide)] at h
  rw [b1, b2] at kpre
  -- no further prefix: the main part, then the prefixes
  have st : ∀ Q : mg_Q, mg_wp (mg_KC scr t) mc_51 (d + 8 * (20 - o) + 12) 67 [some (.ref 3), some (.int (Int32.ofNat o)), some (.int (Int32.ofNat row)), some (.int (Int32.ofNat pc))] [] G Q → mg_wp (mg_KC scr t) mc_51 (d + 8 * (20 - o) + 12) 24 [some (.ref 3), some (.int (Int32.ofNat o)), some (.int (Int32.ofNat row)), some (.int (Int32.ofNat pc))] [] G Q := fun Q g => by
    refine mg_go [67] 60 24 ms_51 ?_
    refine ⟨_, mg_Fe h5 rfl rfl, fun _ => g, fun _ => ?_⟩
    repeat (first | refine ⟨_, mg_Fs rfl rfl, ?_⟩ | refine ⟨Or.inl rfl, ?_⟩ | refine ⟨Or.inr ⟨_, rfl⟩, ?_⟩ | refine ⟨fun _ => ?_, fun h => absurd h (by decide)⟩ | refine ⟨fun h => absurd h (by decide), fun _ => ?_⟩)
    refine mg_cv (kpre) (by omega) ?_
    exact ⟨fun _ => g, fun q => absurd rfl q⟩
  refine st _ ?_
  clear st pre
  have fin : ∀ (T : a_T) (q : Nat) (o1 : Option Value ⊕ String) (q1 : Nat) (G1 : mg_G), q ≤ l.length → yQ G A l row (pc + xs.length) (.inr (T, q)) o1 q1 G1 → o1 = .inl none ∧ q1 = 0 ∧ mg_wp (mg_KC scr t) mc_51 (d + 8 * (20 - o) + 12) 129 [some (.ref 3), some (.int (Int32.ofNat o)), some (.int (Int32.ofNat row)), some (.int (Int32.ofNat pc))] [] G1 (yQ G0 A l row pc (yM xs (.inr (T, q)))) := fun T q o1 q1 G1 hq w => by
    obtain ⟨rfl, rfl, h1, h2⟩ := hH.m w
    refine ⟨rfl, rfl, ?_⟩
    have := c51t (scr := scr) (t := t) hW (by omega) (by omega) (Int32.ofNat o) (d + 8 * (20 - o) + 9) hI0 xs.length xs rfl (by omega) T G1 h1 h2
    exact this
  have kif := c97 (scr := scr) (t := t) d hk hp n7_if
  have kop := c94 (scr := scr) (t := t) d hN hk (c := 40) (by decide)
  cases b3 : k_wd l p w_if with
  | true =>
    rw [if_pos b3] at h
    rw [b3] at kif
    have k1 := c55 ih hW ho hp hrow hpc hI (k_wd_E b3) h d
    refine mg_go [129] 60 67 ms_51 ?_
    repeat (first | refine ⟨_, mg_Fs rfl rfl, ?_⟩ | refine ⟨Or.inl rfl, ?_⟩ | refine ⟨Or.inr ⟨_, rfl⟩, ?_⟩ | refine ⟨fun _ => ?_, fun h => absurd h (by decide)⟩ | refine ⟨fun h => absurd h (by decide), fun _ => ?_⟩)
    refine mg_cv (kif) (by omega) ?_
    refine ⟨fun q => absurd q (by decide), fun _ => ?_⟩
    repeat (first | refine ⟨_, mg_Fs rfl rfl, ?_⟩ | refine ⟨Or.inl rfl, ?_⟩ | refine ⟨Or.inr ⟨_, rfl⟩, ?_⟩ | refine ⟨fun _ => ?_, fun h => absurd h (by decide)⟩ | refine ⟨fun h => absurd h (by decide), fun _ => ?_⟩)
    refine mg_m_mono (k1) (by omega) ?_
    rintro o1 q1 G1 w
    cases r with
    | inl e =>
      obtain ⟨rfl, rfl, w2⟩ := hH.1.e (row' := row) (c' := pc + xs.length) (A := A) w
      exact w2
    | inr x =>
      have hq : x.2 ≤ l.length := by
        have h9 : zP A l (n + 1) 5 none o p = some (.inr (x.1, x.2)) := by
          simp only [zP]
          rw [if_neg (by decide), if_neg (by rw [b1]; decide), if_neg (by rw [b2]; decide), if_pos b3]
          exact h
        exact (zP_okn hW hp h9).2.1
      obtain ⟨rfl, rfl, w2⟩ := fin x.1 x.2 _ _ _ hq w
      exact w2
  | false =>
  rw [if_neg (by rw [b3]; decide)] at h
  rw [b3] at kif
  cases b4 : k_is l p 40 with
  | true =>
    rw [if_pos b4] at h
    rw [b4] at kop
    have hlt := k_is_E b4
    by_cases h20 : o = 20
    · rw [if_pos h20] at h
      cases h
      subst h20
      refine mg_go [129] 60 67 ms_51 ?_
      repeat (first | refine ⟨_, mg_Fs rfl rfl, ?_⟩ | refine ⟨Or.inl rfl, ?_⟩ | refine ⟨Or.inr ⟨_, rfl⟩, ?_⟩ | refine ⟨fun _ => ?_, fun h => absurd h (by decide)⟩ | refine ⟨fun h => absurd h (by decide), fun _ => ?_⟩)
      refine mg_cv (kif) (by omega) ?_
      refine ⟨fun _ => ?_, fun q => absurd rfl q⟩
      repeat (first | refine ⟨_, mg_Fs rfl rfl, ?_⟩ | refine ⟨Or.inl rfl, ?_⟩ | refine ⟨Or.inr ⟨_, rfl⟩, ?_⟩ | refine ⟨fun _ => ?_, fun h => absurd h (by decide)⟩ | refine ⟨fun h => absurd h (by decide), fun _ => ?_⟩)
      refine mg_cv (kop) (by omega) ?_
      refine ⟨fun q => absurd q (by decide), fun _ => ?_⟩
      repeat (first | refine ⟨_, mg_Fs rfl rfl, ?_⟩ | refine ⟨Or.inl rfl, ?_⟩ | refine ⟨Or.inr ⟨_, rfl⟩, ?_⟩ | refine ⟨fun _ => ?_, fun h => absurd h (by decide)⟩ | refine ⟨fun h => absurd h (by decide), fun _ => ?_⟩)
      refine mg_m_mono (c56b d hN hk b4) (by omega) ?_
      rintro o1 q1 G1 ⟨rfl, rfl, rfl⟩
      exact hH.1.x (A := A) _ _
    rw [if_neg h20] at h
    have k1 : ∀ (G1 : mg_G) r', yI G1 A l (k_E l p) (pc + xs.length) → zP A l n 0 none (o + 1) (k_E l p) = some r' → mg_m (mg_KC scr t) (d + 8 * (20 - (o + 1)) + (7 - 0) + 12) 50 [.ref 3, .int 0, .int (Int32.ofNat o + Int32.ofInt 1), .int (Int32.ofNat row)] G1 (yQ G1 A l row (pc + xs.length) r') := fun G1 r' h4 g => by
      rw [mg_inc o]
      exact ih.1 0 (o + 1) row _ _ r' G1 (by omega) (by omega) hE (by omega) (by omega) h4 g d
    have st : ∀ Q : mg_Q, (∀ G2, yZ G G2 l row (pc + xs.length) (pc + xs.length) (k_E l p) → mg_m (mg_KC scr t) (d + 8 * (20 - (o + 1)) + (7 - 0) + 12) 50 [.ref 3, .int 0, .int (Int32.ofNat o + Int32.ofInt 1), .int (Int32.ofNat row)] G2 (fun o2 k2 G2 => (o2 = .inl none ∧ k2 = 0 ∧ mg_wp (mg_KC scr t) mc_51 (d + 8 * (20 - o) + 12) 115 [some (.ref 3), some (.int (Int32.ofNat o)), some (.int (Int32.ofNat row)), some (.int (Int32.ofNat pc))] [] G2 Q) ∨ ∃ E, o2 = .inr E ∧ Q (.inr E) k2 G2)) → mg_wp (mg_KC scr t) mc_51 (d + 8 * (20 - o) + 12) 67 [some (.ref 3), some (.int (Int32.ofNat o)), some (.int (Int32.ofNat row)), some (.int (Int32.ofNat pc))] [] G Q := fun Q g => by
      refine mg_go [115] 60 67 ms_51 ?_
      repeat (first | refine ⟨_, mg_Fs rfl rfl, ?_⟩ | refine ⟨Or.inl rfl, ?_⟩ | refine ⟨Or.inr ⟨_, rfl⟩, ?_⟩ | refine ⟨fun _ => ?_, fun h => absurd h (by decide)⟩ | refine ⟨fun h => absurd h (by decide), fun _ => ?_⟩)
      refine mg_cv (kif) (by omega) ?_
      refine ⟨fun _ => ?_, fun q => absurd rfl q⟩
      repeat (first | refine ⟨_, mg_Fs rfl rfl, ?_⟩ | refine ⟨Or.inl rfl, ?_⟩ | refine ⟨Or.inr ⟨_, rfl⟩, ?_⟩ | refine ⟨fun _ => ?_, fun h => absurd h (by decide)⟩ | refine ⟨fun h => absurd h (by decide), fun _ => ?_⟩)
      refine mg_cv (kop) (by omega) ?_
      refine ⟨fun q => absurd q (by decide), fun _ => ?_⟩
      repeat (first | refine ⟨_, mg_Fs rfl rfl, ?_⟩ | refine ⟨Or.inl rfl, ?_⟩ | refine ⟨Or.inr ⟨_, rfl⟩, ?_⟩ | refine ⟨fun _ => ?_, fun h => absurd h (by decide)⟩ | refine ⟨fun h => absurd h (by decide), fun _ => ?_⟩)
      refine mg_m_mono (c56c d hN hB hk hp b4 (by omega)) (by omega) ?_
      rintro o2 q2 G2 ⟨rfl, rfl, w4, w5, w6⟩
      repeat (first | refine ⟨_, mg_Fs rfl rfl, ?_⟩ | refine ⟨Or.inl rfl, ?_⟩ | refine ⟨Or.inr ⟨_, rfl⟩, ?_⟩ | refine ⟨fun _ => ?_, fun h => absurd h (by decide)⟩ | refine ⟨fun h => absurd h (by decide), fun _ => ?_⟩)
      refine mg_m_mono (g G2 ((hI.Z row (pc + xs.length)).t w4 w5 w6)) (by omega) ?_
      rintro o2 k2 G3 (⟨rfl, rfl, w⟩ | ⟨E, rfl, w⟩)
      · exact w
      · exact w
    refine st _ (fun G2 hZ2 => ?_)
    rcases zB_s h with ⟨e, g1, rfl⟩ | ⟨T, q, g1, h⟩
    · refine mg_m_mono (k1 G2 _ (hZ2.I hI) g1) (by omega) ?_
      rintro o2 q2 G3 w
      obtain ⟨rfl, rfl, w2⟩ := hZ2.e (row' := row) w
      obtain ⟨-, -, w3⟩ := hH.1.e (row' := row) (c' := pc + xs.length) (A := A) w2
      exact Or.inr ⟨_, rfl, w3⟩
    obtain ⟨m1, m2, m3, m4⟩ := zP_okn hW hE g1
    refine mg_m_mono (k1 G2 _ (hZ2.I hI) g1) (by omega) ?_
    rintro o2 q2 G3 w
    obtain ⟨rfl, rfl, hZ3, hT3, -⟩ := hZ2.q w (Nat.le_refl _) (Nat.le_refl _)
    refine Or.inl ⟨rfl, rfl, ?_⟩
    have hI3 := hZ3.I hI
    clear st w
    cases b5 : k_is l q 41 with
    | false =>
      rw [b5, if_neg (by decide)] at h
      cases h
      refine mg_go [129] 60 115 ms_51 ?_
      repeat (first | refine ⟨_, mg_Fs rfl rfl, ?_⟩ | refine ⟨Or.inl rfl, ?_⟩ | refine ⟨Or.inr ⟨_, rfl⟩, ?_⟩ | refine ⟨fun _ => ?_, fun h => absurd h (by decide)⟩ | refine ⟨fun h => absurd h (by decide), fun _ => ?_⟩)
      refine mg_m_mono (c46x d hI3.2.2.1 hI3.2.2.2.2.1 (c := 41) (by decide) b5) (by omega) ?_
      rintro o1 q1 G1 ⟨rfl, rfl, rfl⟩
      obtain ⟨-, -, w3⟩ := hH.1.e (row' := row) (c' := pc + xs.length) (A := A) (hZ3.x (A := A) 1 q)
      exact w3
    | true =>
      rw [b5, if_pos rfl] at h
      cases h
      refine mg_go [129] 60 115 ms_51 ?_
      repeat (first | refine ⟨_, mg_Fs rfl rfl, ?_⟩ | refine ⟨Or.inl rfl, ?_⟩ | refine ⟨Or.inr ⟨_, rfl⟩, ?_⟩ | refine ⟨fun _ => ?_, fun h => absurd h (by decide)⟩ | refine ⟨fun h => absurd h (by decide), fun _ => ?_⟩)
      refine mg_m_mono (c46y d hI3.2.2.1 hZ3.2.1 hI3.2.2.2.2.1 m2 (c := 41) (by decide) b5) (by omega) ?_
      rintro o1 q1 G4 ⟨rfl, rfl, w1, w2, w3⟩
      have hK4 : yK G3 G4 (row + 1) pc := yK.tk w3
      have hT4 := hK4.row hT3 (by omega) (by have := a_wds_i (aV A) h8; omega)
      obtain ⟨-, -, w4⟩ := fin T (k_E l q) _ _ _ (k_E_le m2) ((hZ3.t w1 w2 w3).Q hT4)
      exact w4
  | false =>
  rw [if_neg (by rw [b4]; decide)] at h
  rw [b4] at kop
  have hkw : k_kw l p = false := by
    unfold k_kw
    rw [b3, Bool.or_false]
    exact b2
  have k1 := c57 (scr := scr) (t := t) d hI hp (row := row) (by omega) hkw h
  refine mg_go [129] 60 67 ms_51 ?_
  repeat (first | refine ⟨_, mg_Fs rfl rfl, ?_⟩ | refine ⟨Or.inl rfl, ?_⟩ | refine ⟨Or.inr ⟨_, rfl⟩, ?_⟩ | refine ⟨fun _ => ?_, fun h => absurd h (by decide)⟩ | refine ⟨fun h => absurd h (by decide), fun _ => ?_⟩)
  refine mg_cv (kif) (by omega) ?_
  refine ⟨fun _ => ?_, fun q => absurd rfl q⟩
  repeat (first | refine ⟨_, mg_Fs rfl rfl, ?_⟩ | refine ⟨Or.inl rfl, ?_⟩ | refine ⟨Or.inr ⟨_, rfl⟩, ?_⟩ | refine ⟨fun _ => ?_, fun h => absurd h (by decide)⟩ | refine ⟨fun h => absurd h (by decide), fun _ => ?_⟩)
  refine mg_cv (kop) (by omega) ?_
  refine ⟨fun _ => ?_, fun q => absurd rfl q⟩
  repeat (first | refine ⟨_, mg_Fs rfl rfl, ?_⟩ | refine ⟨Or.inl rfl, ?_⟩ | refine ⟨Or.inr ⟨_, rfl⟩, ?_⟩ | refine ⟨fun _ => ?_, fun h => absurd h (by decide)⟩ | refine ⟨fun h => absurd h (by decide), fun _ => ?_⟩)
  refine mg_m_mono (k1) (by omega) ?_
  rintro o1 q1 G1 w
  cases r with
  | inl e =>
    obtain ⟨rfl, rfl, w2⟩ := hH.1.e (row' := row) (c' := pc + xs.length) (A := A) w
    exact w2
  | inr x =>
    have hq : x.2 ≤ l.length := by
      have h9 : zP A l (n + 1) 5 none o p = some (.inr (x.1, x.2)) := by
        simp only [zP]
        rw [if_neg (by decide), if_neg (by rw [b1]; decide), if_neg (by rw [b2]; decide), if_neg (by rw [b3]; decide), if_neg (by rw [b4]; decide)]
        exact h
      exact (zP_okn hW hp h9).2.1
    obtain ⟨rfl, rfl, w2⟩ := fin x.1 x.2 _ _ _ hq w
    exact w2
/-- a simple formula: what the last level calls -/
theorem yFc (ih : yIH scr t A l n) (hW : aW A) (ho : o ≤ 20) (hp : p ≤ l.length) (hrow : row ≤ 7 * o + 5) (hpc : pc ≤ p) (hI : yI G A l p pc) (h : zP A l (n + 1) 5 none o p = some r) (d : Nat) : mg_m (mg_KC scr t) (d + 8 * (20 - o) + (7 - 5) + 12) 50 [.ref 3, .int (Int32.ofNat 5), .int (Int32.ofNat o), .int (Int32.ofNat row)] G (yQ G A l row pc r) := by
  have k1 := j331 (K := mg_KC scr t) (G := G) d (a := 37) (by unfold k_ok; omega)
  rw [show (k_str 37).length = 5 from by decide] at k1
  have e150 : ¬ Int32.ofNat 150 ≤ Int32.ofNat row + Int32.ofInt 2 := by
    rw [show Int32.ofNat row + Int32.ofInt 2 = Int32.ofNat (row + 2) from (Int32.ofNat_add row 2).symm]
    exact mg_nle (by omega) (by decide)
  have h5 := hI.2.2.2.2.2.2
  have k2 : mg_m (mg_KC scr t) (d + 8 * (20 - o) + 13) 51 [.ref 3, .int (Int32.ofNat o), .int (Int32.ofNat row)] G (yQ G A l row pc r) := by
    refine mg_me [24] 60 my_51 ms_51 (Nat.le_of_ble_eq_true rfl) ?_
    refine ⟨fun _ => ?_, fun q => absurd q e150⟩
    repeat (first | refine ⟨_, mg_Fs rfl rfl, ?_⟩ | refine ⟨Or.inl rfl, ?_⟩ | refine ⟨Or.inr ⟨_, rfl⟩, ?_⟩ | refine ⟨fun _ => ?_, fun h => absurd h (by decide)⟩ | refine ⟨fun h => absurd h (by decide), fun _ => ?_⟩)
    refine mg_cn (c39y d 5) (by omega) ?_
    refine ⟨_, mg_Fe h5 rfl rfl, ?_⟩
    have k3 := yFs ih hW (xs := []) ho hp hrow hpc hI (yH.n hI row) h d
    have e : yM [] r = r := by cases r <;> rfl
    rw [e] at k3
    exact k3
  refine mg_me [46] 60 my_50 ms_50 (Nat.le_of_ble_eq_true rfl) ?_
  refine ⟨Or.inr (jr (a := 37) (by unfold k_ok; omega) _), mg_cv k1 (by omega) ?_⟩
  refine ⟨fun q => absurd q (by decide), fun _ => ?_⟩
  repeat (first | refine ⟨_, mg_Fs rfl rfl, ?_⟩ | refine ⟨Or.inl rfl, ?_⟩ | refine ⟨Or.inr ⟨_, rfl⟩, ?_⟩ | refine ⟨fun _ => ?_, fun h => absurd h (by decide)⟩ | refine ⟨fun h => absurd h (by decide), fun _ => ?_⟩)
  refine mg_m_mono (k2) (by omega) ?_
  rintro o1 q1 G1 w
  cases r with
  | inl e =>
    obtain ⟨rfl, rfl, w2⟩ := (hI.Z row pc).e (row' := row) w
    exact w2
  | inr x =>
    obtain ⟨rfl, rfl, hZ, hT, hK⟩ := (hI.Z row pc).q (T := x.1) (u' := x.2) w (Nat.le_refl _) (Nat.le_refl _)
    exact hZ.Q hT
end KC
/-- the class reads formulas as zP does -/
theorem yF_all {scr : Nat × (Nat → Int32)} {t : List mg_S} {A : a_A} {l : List Nat} (hW : aW A) : ∀ n, yIH scr t A l n := by
  intro n
  induction n with
  | zero => exact ⟨fun _ _ _ _ _ _ _ _ _ _ _ _ _ h => (nomatch h), fun _ _ _ _ _ _ _ _ _ _ _ _ _ _ _ _ _ h => (nomatch h), fun _ _ _ _ _ _ _ _ _ _ _ _ _ _ _ h => (nomatch h)⟩
  | succ n ih =>
    refine ⟨fun lvl o row p pc r G hl ho hp hrow hpc hI h d => ?_, fun lvl o row p pc T r G i lim hl ho hp hrow hpc hI hT h hi h1 h6 d => yFb ih hW hl ho hp hrow hpc hI hT h hi h1 h6 d, fun o row p pc xs r G0 G p0 ho hp hrow hpc hI0 hH h d => yFs ih hW ho hp hrow hpc hI0 hH h d⟩
    by_cases h5 : lvl = 5
    · subst h5
      exact yFc ih hW ho hp hrow hpc hI h d
    · exact yFa ih hW (by omega) ho hp hrow hpc hI h d
