section KC
variable {scr : Nat × (Nat → Int32)} {t : List mg_S} {G G0 : mg_G} {N : Nat → List Nat} {v : Nat} {l : List Nat} {p : Nat}
theorem c40l : ∀ n (N : Nat → List Nat) v p more (G : mg_G), dM G0 G N v l p → 1 ≤ v → p ≤ l.length → 9 - v ≤ n → more ≤ v → ∀ d (r : sR), r = (if k_is l p 59 = true then .inr (vA N v, k_E l p) else tD l n N v p) → mg_wp (mg_KC scr t) mc_40 (d + 20) 35 [some (.ref 3), some (.int (Int32.ofNat more))] [] G (cD G0 l r) := by
  intro n
  induction n with
  | zero =>
    intro N v p more G h h1 hp hn hm d r hr
    have := h.2.1.1
    exact absurd hn (by omega)
  | succ n ih =>
    intro N v p more G h h1 hp hn hm d r hr
    obtain ⟨-, hV, hN, hB, hk, -⟩ := id h
    have h8 := hV.1
    have ks := c94 (scr := scr) (t := t) d hN hk (c := 59) (by decide)
    cases b : k_is l p 59 with
    | true =>
      rw [b, if_pos rfl] at hr
      subst hr
      rw [b] at ks
      refine mg_go [35] 60 35 ms_40 ?_
      refine ⟨fun q => absurd q (mg_nle (b := 600) (by omega) (by decide)), fun _ => ?_⟩
      repeat (first | refine ⟨_, mg_Fs rfl rfl, ?_⟩ | refine ⟨Or.inl rfl, ?_⟩ | refine ⟨Or.inr ⟨_, rfl⟩, ?_⟩ | refine ⟨fun _ => ?_, fun h => absurd h (by decide)⟩ | refine ⟨fun h => absurd h (by decide), fun _ => ?_⟩)
      refine mg_cv (ks) (by omega) ?_
      refine ⟨fun _ => ?_, fun q => absurd q (by decide)⟩
      repeat (first | refine ⟨_, mg_Fs rfl rfl, ?_⟩ | refine ⟨Or.inl rfl, ?_⟩ | refine ⟨Or.inr ⟨_, rfl⟩, ?_⟩ | refine ⟨fun _ => ?_, fun h => absurd h (by decide)⟩ | refine ⟨fun h => absurd h (by decide), fun _ => ?_⟩)
      refine mg_m_mono (c93M d (h.M h1) hp) (by omega) ?_
      rintro o q G1 ⟨rfl, rfl, w⟩
      exact w.Q
    | false =>
      rw [b, if_neg (show ¬ (false = true) by decide), tD_s] at hr
      rw [b] at ks
      refine mg_go [35] 60 35 ms_40 ?_
      refine ⟨fun q => absurd q (mg_nle (b := 600) (by omega) (by decide)), fun _ => ?_⟩
      repeat (first | refine ⟨_, mg_Fs rfl rfl, ?_⟩ | refine ⟨Or.inl rfl, ?_⟩ | refine ⟨Or.inr ⟨_, rfl⟩, ?_⟩ | refine ⟨fun _ => ?_, fun h => absurd h (by decide)⟩ | refine ⟨fun h => absurd h (by decide), fun _ => ?_⟩)
      refine mg_cv (ks) (by omega) ?_
      refine ⟨fun q => absurd rfl q, fun _ => ?_⟩
      repeat (first | refine ⟨_, mg_Fs rfl rfl, ?_⟩ | refine ⟨Or.inl rfl, ?_⟩ | refine ⟨Or.inr ⟨_, rfl⟩, ?_⟩ | refine ⟨fun _ => ?_, fun h => absurd h (by decide)⟩ | refine ⟨fun h => absurd h (by decide), fun _ => ?_⟩)
      refine mg_m_mono (c41 d h hp) (by omega) ?_
      rintro o q G1 (⟨b1, b2, b3, rfl, rfl, w⟩ | ⟨c, hc, rfl, rfl, w⟩)
      · rw [if_pos b1, if_pos b2, if_neg b3] at hr
        have g := ih (mg_u N v (k_W l p)) (v + 1) (k_E l p) (more + 1) G1 w (by omega) (k_E_le hp) (by omega) (by omega) d r hr
        rw [← mg_inc more] at g
        exact g
      · have e : r = .inl (c, k_S l p) := by
          rw [hr]
          by_cases b1 : k_nm l p = true
          · rw [if_pos b1] at hc ⊢
            by_cases b2 : t_nw (vA N v) l p = true
            · rw [if_pos b2] at hc ⊢
              by_cases b3 : v = 8
              · rw [if_pos b3] at hc ⊢
                cases hc
                rfl
              · rw [if_neg b3] at hc
                cases hc
            · rw [if_neg b2] at hc ⊢
              cases hc
              rfl
          · rw [if_neg b1] at hc ⊢
            cases hc
            rfl
        rw [e]
        exact w
theorem c40 (d : Nat) (h : dM G0 G (fun _ => []) 0 l 0) {r : sR} (hr : r = (if k_wd l 0 (k_str 28) = true then tD l 10 (fun _ => []) 0 (k_E l 0) else .inl (1, k_S l 0))) : mg_m (mg_KC scr t) (d + 21) 40 [.ref 3] G (cD G0 l r) := by
  obtain ⟨-, hV, hN, hB, hk, -⟩ := id h
  have hp : 0 ≤ l.length := Nat.zero_le _
  have hE := k_E_le hp
  have kw := c96 (scr := scr) (t := t) d hN hB hk hp (a := 28) (by unfold k_ok; omega) (by decide)
  cases b : k_wd l 0 (k_str 28) with
  | false =>
    rw [b, if_neg (show ¬ (false = true) by decide)] at hr
    subst hr
    rw [b] at kw
    refine mg_me [35] 60 my_40 ms_40 (Nat.le_of_ble_eq_true rfl) ?_
    repeat (first | refine ⟨_, mg_Fs rfl rfl, ?_⟩ | refine ⟨Or.inl rfl, ?_⟩ | refine ⟨Or.inr ⟨_, rfl⟩, ?_⟩ | refine ⟨fun _ => ?_, fun h => absurd h (by decide)⟩ | refine ⟨fun h => absurd h (by decide), fun _ => ?_⟩)
    refine mg_cv (kw) (by omega) ?_
    refine ⟨fun q => absurd rfl q, fun _ => ?_⟩
    repeat (first | refine ⟨_, mg_Fs rfl rfl, ?_⟩ | refine ⟨Or.inl rfl, ?_⟩ | refine ⟨Or.inr ⟨_, rfl⟩, ?_⟩ | refine ⟨fun _ => ?_, fun h => absurd h (by decide)⟩ | refine ⟨fun h => absurd h (by decide), fun _ => ?_⟩)
    refine mg_m_mono (c39x d hk 1) (by omega) ?_
    rintro o q G1 ⟨rfl, rfl, rfl⟩
    exact h.x 1
  | true =>
    rw [b, if_pos rfl, tD_s] at hr
    rw [b] at kw
    refine mg_me [35] 60 my_40 ms_40 (Nat.le_of_ble_eq_true rfl) ?_
    repeat (first | refine ⟨_, mg_Fs rfl rfl, ?_⟩ | refine ⟨Or.inl rfl, ?_⟩ | refine ⟨Or.inr ⟨_, rfl⟩, ?_⟩ | refine ⟨fun _ => ?_, fun h => absurd h (by decide)⟩ | refine ⟨fun h => absurd h (by decide), fun _ => ?_⟩)
    refine mg_cv (kw) (by omega) ?_
    refine ⟨fun _ => ?_, fun q => absurd q (by decide)⟩
    repeat (first | refine ⟨_, mg_Fs rfl rfl, ?_⟩ | refine ⟨Or.inl rfl, ?_⟩ | refine ⟨Or.inr ⟨_, rfl⟩, ?_⟩ | refine ⟨fun _ => ?_, fun h => absurd h (by decide)⟩ | refine ⟨fun h => absurd h (by decide), fun _ => ?_⟩)
    refine mg_cn (c39y d 1) (by omega) ?_
    repeat (first | refine ⟨_, mg_Fs rfl rfl, ?_⟩ | refine ⟨Or.inl rfl, ?_⟩ | refine ⟨Or.inr ⟨_, rfl⟩, ?_⟩ | refine ⟨fun _ => ?_, fun h => absurd h (by decide)⟩ | refine ⟨fun h => absurd h (by decide), fun _ => ?_⟩)
    refine mg_m_mono (c93 d hN hE hB hk.1) (by omega) ?_
    rintro o q G1 ⟨rfl, rfl, w1, w2, w3⟩
    have h1 := h.t w1 w2 w3
    repeat (first | refine ⟨_, mg_Fs rfl rfl, ?_⟩ | refine ⟨Or.inl rfl, ?_⟩ | refine ⟨Or.inr ⟨_, rfl⟩, ?_⟩ | refine ⟨fun _ => ?_, fun h => absurd h (by decide)⟩ | refine ⟨fun h => absurd h (by decide), fun _ => ?_⟩)
    refine mg_m_mono (c41 d h1 hE) (by omega) ?_
    rintro o q G2 (⟨b1, b2, b3, rfl, rfl, w⟩ | ⟨c, hc, rfl, rfl, w⟩)
    · rw [if_pos b1, if_pos b2, if_neg b3] at hr
      exact c40l 9 _ 1 (k_E l (k_E l 0)) 1 G2 w (by decide) (k_E_le hE) (by decide) (by decide) d r hr
    · have e : r = .inl (c, k_S l (k_E l 0)) := by
        rw [hr]
        by_cases b1 : k_nm l (k_E l 0) = true
        · rw [if_pos b1] at hc ⊢
          by_cases b2 : t_nw (vA (fun _ => []) 0) l (k_E l 0) = true
          · rw [if_pos b2] at hc ⊢
            rw [if_neg (show ¬ (0 = 8) by decide)] at hc
            cases hc
          · rw [if_neg b2] at hc ⊢
            cases hc
            rfl
        · rw [if_neg b1] at hc ⊢
          cases hc
          rfl
      rw [e]
      exact w
/-- how a system's reading ends -/
def cY9 (G0 : mg_G) (r : zEr ⊕ (a_A × Nat)) : mg_Q := fun o q G => match r with
  | .inl e => o = .inl (some (.int 0)) ∧ q = 1 ∧ yG G0 G ∧ G.2.2.2.2 3 6 = .int e.1 ∧ G.2.2.2.2 3 7 = .int (Int32.ofNat e.2)
  | .inr x => o = .inl (some (.int 1)) ∧ q = 0 ∧ yG G0 G ∧ cS G 4 x.1 ∧ aW x.1 ∧ G.2.2.2.2 3 6 = G0.2.2.2.2 3 6 ∧ G.2.2.2.2 3 7 = G0.2.2.2.2 3 7
theorem c36l : ∀ n (A : a_A) many p (G : mg_G), sM G0 G A l p → p ≤ l.length → l.length - p < n → many ≤ p → ∀ d (r : zEr ⊕ (a_A × Nat)), r = tL false l n A many p → mg_wp (mg_KC scr t) mc_36 (d + 201) 27 [some (.ref 3), some (.ref 1), some (.int (Int32.ofNat many))] [] G (cY9 G0 r) := by
  intro n
  induction n with
  | zero => exact fun A many p G hM hp hn hmp d r hr => absurd hn (Nat.not_lt_zero _)
  | succ n ih =>
    intro A many p G hM hp hn hmp d r hr
    have hk := hM.2.1.2.2.2.2.1
    have hN := hM.2.1.2.2.1
    have hW := hM.2.1.2.1
    have hl6 := hN.2.1
    have hK4 := k_K4 l p
    by_cases h0 : k_K l p = 0
    · rw [tL_0 h0] at hr
      subst hr
      have fin : cY9 G0 (.inr (A, many)) (.inl (some (.int 1))) 0 G := ⟨rfl, rfl, hM.1, hM.2.1.1, hW, hM.2.2.1, hM.2.2.2⟩
      refine mg_go [27] 60 27 ms_36 ?_
      refine ⟨fun _ => ⟨Or.inr rfl, fin⟩, fun _ => ?_⟩
      repeat (first | refine ⟨_, mg_Fs rfl rfl, ?_⟩ | refine ⟨Or.inl rfl, ?_⟩ | refine ⟨Or.inr ⟨_, rfl⟩, ?_⟩ | refine ⟨fun _ => ?_, fun h => absurd h (by decide)⟩ | refine ⟨fun h => absurd h (by decide), fun _ => ?_⟩)
      refine ⟨_, mg_Fe hk.2.1 rfl rfl, fun _ => ?_, fun q => absurd (by rw [h0]; rfl) q⟩
      exact ⟨Or.inr rfl, fin⟩
    · rw [tL_s h0] at hr
      have hp2 := k_K0 hp h0
      have kz : ¬ Int32.ofNat (k_K l p) = 0 := fun q => h0 ((mg_eqN (b := 0) (by omega) (by decide)).mp q)
      have k42 := c42O (scr := scr) (t := t) d hM hp false (many := many) (fun z => nomatch z)
      refine mg_go [27] 60 27 ms_36 ?_
      refine ⟨fun q => absurd q (mg_nle (b := 600) (by omega) (by decide)), fun _ => ?_⟩
      repeat (first | refine ⟨_, mg_Fs rfl rfl, ?_⟩ | refine ⟨Or.inl rfl, ?_⟩ | refine ⟨Or.inr ⟨_, rfl⟩, ?_⟩ | refine ⟨fun _ => ?_, fun h => absurd h (by decide)⟩ | refine ⟨fun h => absurd h (by decide), fun _ => ?_⟩)
      refine ⟨_, mg_Fe hk.2.1 rfl rfl, fun q => absurd q kz, fun _ => ?_⟩
      repeat (first | refine ⟨_, mg_Fs rfl rfl, ?_⟩ | refine ⟨Or.inl rfl, ?_⟩ | refine ⟨Or.inr ⟨_, rfl⟩, ?_⟩ | refine ⟨fun _ => ?_, fun h => absurd h (by decide)⟩ | refine ⟨fun h => absurd h (by decide), fun _ => ?_⟩)
      refine mg_m_mono (k42) (by omega) ?_
      rintro o q G1 w
      rcases e : tO false A l many p with e9 | x
      · rw [e] at w hr
        subst hr
        obtain ⟨rfl, rfl, w1, w2, w3⟩ := w
        refine ⟨show 2 < 3 by decide, ?_⟩
        exact ⟨Or.inr rfl, rfl, rfl, w1, w2, w3⟩
      · obtain ⟨A', q9⟩ := x
        rw [e] at w hr
        obtain ⟨rfl, rfl, hM1⟩ := w
        obtain ⟨m1, m2, m3, m4⟩ := tO_ok hW hl6 hp e
        have g := ih A' (many + 1) q9 G1 hM1 m3 (by omega) (by omega) d r hr
        rw [← mg_inc many] at g
        exact g
def cZ9 (G : mg_G) (r : zEr ⊕ (a_A × Nat)) : mg_Q := fun o q G' => match r with
    | .inl e => o = .inl (some (.int 0)) ∧ q = 1 ∧ yG G G' ∧ G'.2.2.2.2 3 6 = .int e.1 ∧ G'.2.2.2.2 3 7 = .int (Int32.ofNat e.2)
    | .inr x => o = .inl (some (.int 1)) ∧ q = 0 ∧ yG G G' ∧ cS G' 4 x.1 ∧ aW x.1 ∧ G'.2.2.2.2 3 6 = .int 0 ∧ G'.2.2.2.2 3 7 = .int (Int32.ofInt (-1))
theorem tD_ok {l : List Nat} : ∀ n (N : Nat → List Nat) v p A' q, p ≤ l.length → tD l n N v p = .inr (A', q) → q ≤ l.length := by
  intro n
  induction n with
  | zero => exact fun N v p A' q hp h => by cases h
  | succ n ih =>
    intro N v p A' q hp h
    rw [tD_s] at h
    split at h
    · split at h
      · split at h
        · cases h
        · split at h
          · cases h
            exact k_E_le (k_E_le hp)
          · exact ih _ _ _ _ _ (k_E_le hp) h
      · cases h
    · cases h
theorem c36 (d : Nat) (hN : cIn G l) {r : zEr ⊕ (a_A × Nat)} (hr : r = tY l) : mg_m (mg_KC scr t) (d + 202) 36 [.ref 3, .ref 1] G (cZ9 G r) := by
  have hl6 := hN.2.1
  have f1 : mg_fr (fun a => a = 4) G (mg_sF (mg_sF G 4 7 (.int 0)) 4 6 (.int 0)) := (mg_fr.sF (p := fun a => a = 4) _ _ _ rfl).tr (mg_fr.sF _ _ _ rfl)
  have hV : dV (mg_sF (mg_sF G 4 7 (.int 0)) 4 6 (.int 0)) (fun _ => []) 0 := ⟨by decide, mg_sF_at _ _ _ _, (mg_sF_ne _ _ (by decide)).trans (mg_sF_at _ _ _ _), fun i hi => absurd hi (Nat.not_lt_zero i), fun i hi => absurd hi (Nat.not_lt_zero i), fun i hi => absurd hi (Nat.not_lt_zero i), fun i hi => absurd hi (Nat.not_lt_zero i), fun z => absurd z (by decide), fun i hi => absurd hi (Nat.not_lt_zero i)⟩
  have hN1 := hN.fr f1 (by decide) (by decide)
  refine mg_me [27] 60 my_36 ms_36 (Nat.le_of_ble_eq_true rfl) ?_
  repeat (first | refine ⟨_, mg_Fs rfl rfl, ?_⟩ | refine ⟨Or.inl rfl, ?_⟩ | refine ⟨Or.inr ⟨_, rfl⟩, ?_⟩ | refine ⟨fun _ => ?_, fun h => absurd h (by decide)⟩ | refine ⟨fun h => absurd h (by decide), fun _ => ?_⟩)
  refine ⟨rfl, _, rfl, rfl, ?_⟩
  repeat (first | refine ⟨_, mg_Fs rfl rfl, ?_⟩ | refine ⟨Or.inl rfl, ?_⟩ | refine ⟨Or.inr ⟨_, rfl⟩, ?_⟩ | refine ⟨fun _ => ?_, fun h => absurd h (by decide)⟩ | refine ⟨fun h => absurd h (by decide), fun _ => ?_⟩)
  refine ⟨rfl, _, rfl, rfl, ?_⟩
  repeat (first | refine ⟨_, mg_Fs rfl rfl, ?_⟩ | refine ⟨Or.inl rfl, ?_⟩ | refine ⟨Or.inr ⟨_, rfl⟩, ?_⟩ | refine ⟨fun _ => ?_, fun h => absurd h (by decide)⟩ | refine ⟨fun h => absurd h (by decide), fun _ => ?_⟩)
  refine mg_m_mono (c38 d hN1) (by omega) ?_
  rintro o q G2 ⟨rfl, rfl, w1, w2, w3, w4, w5, f2⟩
  have hM : dM G2 G2 (fun _ => []) 0 l 0 := ⟨mg_fr.rf _ _, hV.fr f2 (fun a ha => by unfold kQ at ha; omega), hN1.fr f2 (by decide) (by decide), w1, w2, w3, rfl, rfl⟩
  have fG : yG G G2 := (f1.mono (fun a ha => by omega)).tr (f2.mono (fun a ha => by omega))
  obtain ⟨r0, hr0⟩ : ∃ r0, r0 = (if k_wd l 0 (k_str 28) = true then tD l 10 (fun _ => []) 0 (k_E l 0) else .inl (1, k_S l 0)) := ⟨_, rfl⟩
  have hr2 : r = tX l r0 := by
    rw [hr, hr0]
    unfold tY
    split
    · rfl
    · rfl
  repeat (first | refine ⟨_, mg_Fs rfl rfl, ?_⟩ | refine ⟨Or.inl rfl, ?_⟩ | refine ⟨Or.inr ⟨_, rfl⟩, ?_⟩ | refine ⟨fun _ => ?_, fun h => absurd h (by decide)⟩ | refine ⟨fun h => absurd h (by decide), fun _ => ?_⟩)
  refine mg_m_mono (c40 d hM hr0) (by omega) ?_
  rintro o q G3 w
  rcases r0 with e9 | x
  · have hr2 : r = .inl e9 := hr2
    obtain ⟨rfl, rfl, a1, a2, a3⟩ := w
    rw [hr2]
    refine ⟨show 2 < 3 by decide, ?_⟩
    exact ⟨Or.inr rfl, rfl, rfl, fG.tr a1, a2, a3⟩
  · obtain ⟨A', q9⟩ := x
    have hr2 : r = tL false l 601 A' 0 q9 := hr2
    obtain ⟨rfl, rfl, hM3⟩ := w
    have hq : q9 ≤ l.length := by
      split at hr0
      · exact tD_ok _ _ _ _ _ _ (k_E_le (Nat.zero_le _)) hr0.symm
      · cases hr0
    refine mg_wp_mono (c36l (G0 := G2) 601 A' 0 q9 G3 hM3 hq (by omega) (Nat.zero_le _) d r hr2) ?_
    rintro o q G4 w
    rcases r with e9 | x
    · obtain ⟨rfl, rfl, a1, a2, a3⟩ := w
      exact ⟨rfl, rfl, fG.tr a1, a2, a3⟩
    · obtain ⟨rfl, rfl, a1, a2, a3, a4, a5⟩ := w
      exact ⟨rfl, rfl, fG.tr a1, a2, a3, a4.trans w4, a5.trans w5⟩
end KC
