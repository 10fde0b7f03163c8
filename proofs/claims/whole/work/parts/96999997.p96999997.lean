/-! CLASS: a script is read -/
section KC
variable {scr : Nat × (Nat → Int32)} {t : List mg_S} {G G0 : mg_G} {A : a_A} {l : List Nat} {p : Nat}
theorem c38 (d : Nat) (hN : cIn G l) : mg_m (mg_KC scr t) (d + 4) 38 [.ref 3, .ref 1] G (fun o q G' => o = .inl none ∧ q = 0 ∧ ckB G' l ∧ ck G' l 0 ∧ G'.2.2.2.2 3 5 = .int (Int32.ofNat 0) ∧ G'.2.2.2.2 3 6 = .int 0 ∧ G'.2.2.2.2 3 7 = .int (Int32.ofInt (-1)) ∧ mg_fr (fun a => a = 3 ∨ a = 12) G G') := by
  have f : mg_fr (fun a => a = 3) G (mg_sF (mg_sF (mg_sF G 3 6 (.int 0)) 3 7 (.int (Int32.ofInt (-1)))) 3 5 (.int 0)) := ((mg_fr.sF (p := fun a => a = 3) _ _ _ rfl).tr (mg_fr.sF _ _ _ rfl)).tr (mg_fr.sF _ _ _ rfl)
  refine mg_me [] 60 my_38 ms_38 (Nat.le_of_ble_eq_true rfl) ?_
  refine ⟨rfl, _, rfl, rfl, rfl, _, rfl, rfl, rfl, _, rfl, rfl, ?_⟩
  repeat (first | refine ⟨_, mg_Fs rfl rfl, ?_⟩ | refine ⟨Or.inl rfl, ?_⟩ | refine ⟨Or.inr ⟨_, rfl⟩, ?_⟩ | refine ⟨fun _ => ?_, fun h => absurd h (by decide)⟩ | refine ⟨fun h => absurd h (by decide), fun _ => ?_⟩)
  refine mg_m_mono (c92 d (hN.fr f (by decide) (by decide))) (by omega) ?_
  rintro o q G1 ⟨rfl, rfl, w1, w2, w3⟩
  have e3 := (w3 3 (by decide)).2.2.2.2
  exact ⟨rfl, rfl, w1, w2, (congrFun e3 5).trans (mg_sF_at _ _ _ _), (congrFun e3 6).trans ((mg_sF_ne _ _ (by decide)).trans ((mg_sF_ne _ _ (by decide)).trans (mg_sF_at _ _ _ _))), (congrFun e3 7).trans ((mg_sF_ne _ _ (by decide)).trans (mg_sF_at _ _ _ _)), (f.mono (fun a ha => Or.inl ha)).tr (w3.mono (fun a ha => Or.inr ha))⟩
/-- how a script's reading ends -/
def cN9 (G0 : mg_G) (l : List Nat) (r : zEr ⊕ (a_A × Nat)) : mg_Q := fun o q G => match r with
  | .inl e => o = .inl (some (.int (Int32.ofInt (-1)))) ∧ q = 1 ∧ yG G0 G ∧ G.2.2.2.2 3 6 = .int e.1 ∧ G.2.2.2.2 3 7 = .int (Int32.ofNat e.2)
  | .inr x => o = .inl (some (.int (Int32.ofNat x.2))) ∧ q = 0 ∧ yG G0 G ∧ cS G 4 x.1 ∧ aW x.1 ∧ G.2.2.2.2 3 6 = G0.2.2.2.2 3 6 ∧ G.2.2.2.2 3 7 = G0.2.2.2.2 3 7
theorem c42O (d : Nat) (hM : sM G0 G A l p) (hp : p ≤ l.length) (sc : Bool) {many : Nat} (hm : sc = true → many ≤ 30) : mg_m (mg_KC scr t) (d + 201) 42 [.ref 3, .int (b2 sc), .int (Int32.ofNat many)] G (cD G0 l (tO sc A l many p)) := c42 d hM hp sc hm
theorem c37l : ∀ n (A : a_A) many p (G : mg_G), sM G0 G A l p → p ≤ l.length → l.length - p < n → many ≤ 30 → many ≤ p → ∀ d, mg_wp (mg_KC scr t) mc_37 (d + 201) 15 [some (.ref 3), some (.ref 1), some (.ref 30), some (.int (Int32.ofNat many)), none] [] G (cN9 G0 l (tL true l n A many p)) := by
  intro n
  induction n with
  | zero => exact fun A many p G hM hp hn hm hmp d => absurd hn (Nat.not_lt_zero _)
  | succ n ih =>
    intro A many p G hM hp hn hm hmp d
    have hk := hM.2.1.2.2.2.2.1
    have hN := hM.2.1.2.2.1
    have hW := hM.2.1.2.1
    have hl6 := hN.2.1
    have hK4 := k_K4 l p
    by_cases h0 : k_K l p = 0
    · rw [tL_0 h0]
      refine mg_go [15] 60 15 ms_37 ?_
      refine ⟨fun q => absurd q (mg_nle (b := 600) (by omega) (by decide)), fun _ => ?_⟩
      repeat (first | refine ⟨_, mg_Fs rfl rfl, ?_⟩ | refine ⟨Or.inl rfl, ?_⟩ | refine ⟨Or.inr ⟨_, rfl⟩, ?_⟩ | refine ⟨fun _ => ?_, fun h => absurd h (by decide)⟩ | refine ⟨fun h => absurd h (by decide), fun _ => ?_⟩)
      refine ⟨_, mg_Fe hk.2.1 rfl rfl, fun _ => ?_, fun q => absurd (by rw [h0]; rfl) q⟩
      exact ⟨Or.inl rfl, rfl, rfl, hM.1, hM.2.1.1, hW, hM.2.2.1, hM.2.2.2⟩
    · rw [tL_s h0]
      have kz : ¬ Int32.ofNat (k_K l p) = 0 := fun q => h0 ((mg_eqN (b := 0) (by omega) (by decide)).mp q)
      have k42 := c42O (scr := scr) (t := t) d hM hp true (many := many) (fun _ => hm)
      refine mg_go [15] 60 15 ms_37 ?_
      refine ⟨fun q => absurd q (mg_nle (b := 600) (by omega) (by decide)), fun _ => ?_⟩
      repeat (first | refine ⟨_, mg_Fs rfl rfl, ?_⟩ | refine ⟨Or.inl rfl, ?_⟩ | refine ⟨Or.inr ⟨_, rfl⟩, ?_⟩ | refine ⟨fun _ => ?_, fun h => absurd h (by decide)⟩ | refine ⟨fun h => absurd h (by decide), fun _ => ?_⟩)
      refine ⟨_, mg_Fe hk.2.1 rfl rfl, fun q => absurd q kz, fun _ => ?_⟩
      repeat (first | refine ⟨_, mg_Fs rfl rfl, ?_⟩ | refine ⟨Or.inl rfl, ?_⟩ | refine ⟨Or.inr ⟨_, rfl⟩, ?_⟩ | refine ⟨fun _ => ?_, fun h => absurd h (by decide)⟩ | refine ⟨fun h => absurd h (by decide), fun _ => ?_⟩)
      refine mg_m_mono (k42) (by omega) ?_
      rintro o q G1 w
      cases e : tO true A l many p with
      | inl e9 =>
        rw [e] at w
        obtain ⟨rfl, rfl, w1, w2, w3⟩ := w
        refine ⟨show 4 < 5 by decide, ?_⟩
        exact ⟨Or.inl rfl, rfl, rfl, w1, w2, w3⟩
      | inr x =>
        obtain ⟨A', q9⟩ := x
        rw [e] at w
        obtain ⟨rfl, rfl, hM1⟩ := w
        obtain ⟨m1, m2, m3, m4⟩ := tO_ok hW hl6 hp e
        have h30 := m4 rfl
        have g := ih A' (many + 1) q9 G1 hM1 m3 (by omega) (by omega) (by omega) d
        rw [← mg_inc many] at g
        exact g
theorem c37 (d : Nat) (hS : cS G 30 A) (hW : aW A) (hN : cIn G l) {n : Nat} (hn : l.length < n) : mg_m (mg_KC scr t) (d + 202) 37 [.ref 3, .ref 1, .ref 30] G (fun o q G' => match tL true l n A 0 0 with
    | .inl e => o = .inl (some (.int (Int32.ofInt (-1)))) ∧ q = 1 ∧ yG G G' ∧ G'.2.2.2.2 3 6 = .int e.1 ∧ G'.2.2.2.2 3 7 = .int (Int32.ofNat e.2)
    | .inr x => o = .inl (some (.int (Int32.ofNat x.2))) ∧ q = 0 ∧ yG G G' ∧ cS G' 4 x.1 ∧ aW x.1 ∧ G'.2.2.2.2 3 6 = .int 0 ∧ G'.2.2.2.2 3 7 = .int (Int32.ofInt (-1))) := by
  refine mg_me [15] 60 my_37 ms_37 (Nat.le_of_ble_eq_true rfl) ?_
  repeat (first | refine ⟨_, mg_Fs rfl rfl, ?_⟩ | refine ⟨Or.inl rfl, ?_⟩ | refine ⟨Or.inr ⟨_, rfl⟩, ?_⟩ | refine ⟨fun _ => ?_, fun h => absurd h (by decide)⟩ | refine ⟨fun h => absurd h (by decide), fun _ => ?_⟩)
  refine mg_m_mono (c64A d kc_s2 kc_s1 (Or.inl (by decide)) hS hW) (by omega) ?_
  rintro o q G1 ⟨rfl, rfl, hS1, f1⟩
  have hN1 := hN.fr f1 (by unfold kQ; omega) (by unfold kQ; omega)
  repeat (first | refine ⟨_, mg_Fs rfl rfl, ?_⟩ | refine ⟨Or.inl rfl, ?_⟩ | refine ⟨Or.inr ⟨_, rfl⟩, ?_⟩ | refine ⟨fun _ => ?_, fun h => absurd h (by decide)⟩ | refine ⟨fun h => absurd h (by decide), fun _ => ?_⟩)
  refine mg_m_mono (c38 d hN1) (by omega) ?_
  rintro o q G2 ⟨rfl, rfl, w1, w2, w3, w4, w5, f2⟩
  have hM : sM G2 G2 A l 0 := sI.M ⟨hS1.fr f2 (fun a ha => by unfold kQ at ha; omega), hW, hN1.fr f2 (by decide) (by decide), w1, w2, w3⟩
  have fG : yG G G2 := (f1.mono (fun a ha => by unfold kQ at ha; omega)).tr (f2.mono (fun a ha => by omega))
  refine mg_wp_mono (c37l (G0 := G2) n A 0 0 G2 hM (Nat.zero_le _) (by omega) (by decide) (Nat.le_refl _) d) ?_
  rintro o q G3 w
  cases e : tL true l n A 0 0 with
  | inl e9 =>
    rw [e] at w
    obtain ⟨rfl, rfl, a1, a2, a3⟩ := w
    exact ⟨rfl, rfl, fG.tr a1, a2, a3⟩
  | inr x =>
    rw [e] at w
    obtain ⟨rfl, rfl, a1, a2, a3, a4, a5⟩ := w
    exact ⟨rfl, rfl, fG.tr a1, a2, a3, a4.trans w4, a5.trans w5⟩
end KC
