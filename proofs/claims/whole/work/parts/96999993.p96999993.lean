/-! CLASS: statements, what they are made of; a function's definition -/
abbrev yG (G G' : mg_G) : Prop := mg_fr (fun a => 3 ≤ a ∧ a ≤ 29) G G'
theorem yF.g {G G' : mg_G} (h : yF G G') : yG G G' := h.mono (fun a ha => by omega)
/-- a draft is read into, the token at p -/
def sI (G : mg_G) (A : a_A) (l : List Nat) (p : Nat) : Prop := cS G 4 A ∧ aW A ∧ cIn G l ∧ ckB G l ∧ ck G l p ∧ G.2.2.2.2 3 5 = .int (Int32.ofNat 0)
def sM (G0 G : mg_G) (A : a_A) (l : List Nat) (p : Nat) : Prop := yG G0 G ∧ sI G A l p ∧ G.2.2.2.2 3 6 = G0.2.2.2.2 3 6 ∧ G.2.2.2.2 3 7 = G0.2.2.2.2 3 7
/-- the end: an error is thrown, or a state -/
def cD (G0 : mg_G) (l : List Nat) (r : sR) : mg_Q := fun o q G => match r with
  | .inl e => o = .inr xA ∧ q = 1 ∧ yG G0 G ∧ G.2.2.2.2 3 6 = .int e.1 ∧ G.2.2.2.2 3 7 = .int (Int32.ofNat e.2)
  | .inr x => o = .inl none ∧ q = 0 ∧ sM G0 G x.1 l x.2
section SM
variable {G0 G G' : mg_G} {A A' : a_A} {l : List Nat} {p q : Nat}
theorem sI.M (h : sI G A l p) : sM G G A l p := ⟨mg_fr.rf _ _, h, rfl, rfl⟩
theorem sM.t (h : sM G0 G A l p) (hB : ckB G' l) (hk : ck G' l q) (hf : cTf G G') : sM G0 G' A l q :=
  ⟨h.1.tr hf.y.g, ⟨h.2.1.1.fr hf (fun a ha => by unfold kQ at ha; omega), h.2.1.2.1, hf.n h.2.1.2.2.1, hB, hk, (congrFun (hf 3 (by decide)).2.2.2.2 5).trans h.2.1.2.2.2.2.2⟩, (congrFun (hf 3 (by decide)).2.2.2.2 6).trans h.2.2.1, (congrFun (hf 3 (by decide)).2.2.2.2 7).trans h.2.2.2⟩
theorem sM.c (h : sM G0 G A l p) {P : Nat → Prop} (hS : cS G' 4 A') (hW : aW A') (hf : mg_fr P G G') (hP : ∀ a, P a → 4 ≤ a ∧ a ≤ 29 ∧ a ≠ 12) : sM G0 G' A' l p := by
  have n : ∀ a, a < 4 ∨ a = 12 → ¬ P a := fun a ha z => by have := hP a z; omega
  have f3 := (hf 3 (n 3 (by decide))).2.2.2.2
  have f12 := (hf 12 (n 12 (by decide))).2.2.2.2
  exact ⟨h.1.tr (hf.mono (fun a ha => by have := hP a ha; omega)), ⟨hS, hW, h.2.1.2.2.1.fr hf (n 1 (by decide)) (n 2 (by decide)), h.2.1.2.2.2.1.f f12, h.2.1.2.2.2.2.1.f f12, (congrFun f3 5).trans h.2.1.2.2.2.2.2⟩, (congrFun f3 6).trans h.2.2.1, (congrFun f3 7).trans h.2.2.2⟩
theorem sM.x (h : sM G0 G A l p) (c : Int32) : cD G0 l (.inl (c, k_S l p)) (.inr xA) 1 (yX G c l p) := ⟨rfl, rfl, h.1.tr (yX_F G c l p).g, (mg_sF_ne _ _ (by decide)).trans (mg_sF_at _ _ _ _), mg_sF_at _ _ _ _⟩
theorem sM.Q (h : sM G0 G A l p) : cD G0 l (.inr (A, p)) (.inl none) 0 G := ⟨rfl, rfl, h⟩
end SM
section KC
variable {scr : Nat × (Nat → Int32)} {t : List mg_S} {G G0 : mg_G} {A : a_A} {l : List Nat} {p : Nat}
theorem c93M (d : Nat) (h : sM G0 G A l p) (hp : p ≤ l.length) : mg_m (mg_KC scr t) (d + 2) 93 [.ref 12] G (fun o q G' => o = .inl none ∧ q = 0 ∧ sM G0 G' A l (k_E l p)) := mg_m_mono (c93 d h.2.1.2.2.1 (k_E_le hp) h.2.1.2.2.2.1 h.2.1.2.2.2.2.1.1) (Nat.le_refl _) (fun o q G' w => ⟨w.1, w.2.1, h.t w.2.2.1 w.2.2.2.1 w.2.2.2.2⟩)
theorem c39M (d : Nat) (h : sM G0 G A l p) (c : Int32) : mg_m (mg_KC scr t) (d + 1) 39 [.ref 3, .int 1, .int c] G (fun o q G' => o = .inr xA ∧ q = 1 ∧ cD G0 l (.inl (c, k_S l p)) (.inr xA) 1 G') := mg_m_mono (c39x d h.2.1.2.2.2.2.1 c) (Nat.le_refl _) (fun o q G' ⟨w1, w2, w3⟩ => ⟨w1, w2, w3 ▸ h.x c⟩)
theorem c98M (d : Nat) (h : sM G0 G A l p) (hp : p ≤ l.length) : mg_m (mg_KC scr t) (d + 1) 98 [.ref 12] G (mg_v (.int (b2 (k_nm l p))) G) := c98 d h.2.1.2.2.2.2.1 hp
/-- a function's definition, behind its word -/
theorem c45 (d : Nat) (hM : sM G0 G A l p) (hp : p ≤ l.length) (h12 : aF A ≠ 12) : mg_m (mg_KC scr t) (d + 190) 45 [.ref 3] G (cD G0 l (tNew A l p)) := by
  unfold tNew
  obtain ⟨hS, hW, hN, hB, hk, h5⟩ := hM.2.1
  have hE := k_E_le hp
  have h8 : aV A ≤ 8 := hW.2.1.2.2.2
  have hf12 := hW.2.2.1
  obtain ⟨hn, -⟩ := a_wds_i (aV A) h8
  have h4 : a_wds (aV A) ≤ 4 := by omega
  have hl6 := hN.2.1
  have kn := c98M (scr := scr) (t := t) d hM hp
  cases b1 : k_nm l p with
  | false =>
    rw [b1] at kn
    rw [if_neg (by decide)]
    refine mg_me [] 60 my_45 ms_45 (Nat.le_of_ble_eq_true rfl) ?_
    repeat (first | refine ⟨_, mg_Fs rfl rfl, ?_⟩ | refine ⟨Or.inl rfl, ?_⟩ | refine ⟨Or.inr ⟨_, rfl⟩, ?_⟩ | refine ⟨fun _ => ?_, fun h => absurd h (by decide)⟩ | refine ⟨fun h => absurd h (by decide), fun _ => ?_⟩)
    refine mg_cv (kn) (by omega) ?_
    refine ⟨fun q => absurd rfl q, fun _ => ?_⟩
    repeat (first | refine ⟨_, mg_Fs rfl rfl, ?_⟩ | refine ⟨Or.inl rfl, ?_⟩ | refine ⟨Or.inr ⟨_, rfl⟩, ?_⟩ | refine ⟨fun _ => ?_, fun h => absurd h (by decide)⟩ | refine ⟨fun h => absurd h (by decide), fun _ => ?_⟩)
    refine mg_m_mono (c39M d hM 1) (by omega) ?_
    rintro o q G1 ⟨rfl, rfl, w⟩
    exact w
  | true =>
  rw [b1] at kn
  rw [if_pos rfl]
  have hK1 := k_nm_1 b1
  have h7 := hk.2.2.2.1 hK1
  have k69 := c69A (scr := scr) (t := t) d hS hW hp hK1
  have k68 := c68A (scr := scr) (t := t) d hS hW hp hK1
  cases b2 : t_nw A l p with
  | false =>
    rw [if_neg (by decide)]
    cases ev : k_v A l p with
    | some v =>
      have hv2 : v < aV A := k_at_lt ev
      rw [ev] at k69
      refine mg_me [] 60 my_45 ms_45 (Nat.le_of_ble_eq_true rfl) ?_
      repeat (first | refine ⟨_, mg_Fs rfl rfl, ?_⟩ | refine ⟨Or.inl rfl, ?_⟩ | refine ⟨Or.inr ⟨_, rfl⟩, ?_⟩ | refine ⟨fun _ => ?_, fun h => absurd h (by decide)⟩ | refine ⟨fun h => absurd h (by decide), fun _ => ?_⟩)
      refine mg_cv (kn) (by omega) ?_
      refine ⟨fun _ => ?_, fun q => absurd q (by decide)⟩
      repeat (first | refine ⟨_, mg_Fs rfl rfl, ?_⟩ | refine ⟨Or.inl rfl, ?_⟩ | refine ⟨Or.inr ⟨_, rfl⟩, ?_⟩ | refine ⟨fun _ => ?_, fun h => absurd h (by decide)⟩ | refine ⟨fun h => absurd h (by decide), fun _ => ?_⟩)
      refine mg_cn (c39y d 1) (by omega) ?_
      repeat (first | refine ⟨_, mg_Fs rfl rfl, ?_⟩ | refine ⟨Or.inl rfl, ?_⟩ | refine ⟨Or.inr ⟨_, rfl⟩, ?_⟩ | refine ⟨fun _ => ?_, fun h => absurd h (by decide)⟩ | refine ⟨fun h => absurd h (by decide), fun _ => ?_⟩)
      refine ⟨_, mg_Fe h7 rfl rfl, ?_⟩
      repeat (first | refine ⟨_, mg_Fs rfl rfl, ?_⟩ | refine ⟨Or.inl rfl, ?_⟩ | refine ⟨Or.inr ⟨_, rfl⟩, ?_⟩ | refine ⟨fun _ => ?_, fun h => absurd h (by decide)⟩ | refine ⟨fun h => absurd h (by decide), fun _ => ?_⟩)
      refine mg_cv (k69) (by omega) ?_
      refine ⟨fun _ => ?_, fun q => absurd q (mg_n1 (by omega))⟩
      repeat (first | refine ⟨_, mg_Fs rfl rfl, ?_⟩ | refine ⟨Or.inl rfl, ?_⟩ | refine ⟨Or.inr ⟨_, rfl⟩, ?_⟩ | refine ⟨fun _ => ?_, fun h => absurd h (by decide)⟩ | refine ⟨fun h => absurd h (by decide), fun _ => ?_⟩)
      refine mg_m_mono (c39M d hM 4) (by omega) ?_
      rintro o q G1 ⟨rfl, rfl, w⟩
      exact w
    | none =>
      cases ef : k_f A l p with
      | none =>
        unfold t_nw at b2
        rw [ev, ef] at b2
        cases b2
      | some f =>
        have hf2 : f < aF A := k_at_lt ef
        rw [ev] at k69
        rw [ef] at k68
        refine mg_me [] 60 my_45 ms_45 (Nat.le_of_ble_eq_true rfl) ?_
        repeat (first | refine ⟨_, mg_Fs rfl rfl, ?_⟩ | refine ⟨Or.inl rfl, ?_⟩ | refine ⟨Or.inr ⟨_, rfl⟩, ?_⟩ | refine ⟨fun _ => ?_, fun h => absurd h (by decide)⟩ | refine ⟨fun h => absurd h (by decide), fun _ => ?_⟩)
        refine mg_cv (kn) (by omega) ?_
        refine ⟨fun _ => ?_, fun q => absurd q (by decide)⟩
        repeat (first | refine ⟨_, mg_Fs rfl rfl, ?_⟩ | refine ⟨Or.inl rfl, ?_⟩ | refine ⟨Or.inr ⟨_, rfl⟩, ?_⟩ | refine ⟨fun _ => ?_, fun h => absurd h (by decide)⟩ | refine ⟨fun h => absurd h (by decide), fun _ => ?_⟩)
        refine mg_cn (c39y d 1) (by omega) ?_
        repeat (first | refine ⟨_, mg_Fs rfl rfl, ?_⟩ | refine ⟨Or.inl rfl, ?_⟩ | refine ⟨Or.inr ⟨_, rfl⟩, ?_⟩ | refine ⟨fun _ => ?_, fun h => absurd h (by decide)⟩ | refine ⟨fun h => absurd h (by decide), fun _ => ?_⟩)
        refine ⟨_, mg_Fe h7 rfl rfl, ?_⟩
        repeat (first | refine ⟨_, mg_Fs rfl rfl, ?_⟩ | refine ⟨Or.inl rfl, ?_⟩ | refine ⟨Or.inr ⟨_, rfl⟩, ?_⟩ | refine ⟨fun _ => ?_, fun h => absurd h (by decide)⟩ | refine ⟨fun h => absurd h (by decide), fun _ => ?_⟩)
        refine mg_cv (k69) (by omega) ?_
        refine ⟨fun q => absurd rfl q, fun _ => ?_⟩
        repeat (first | refine ⟨_, mg_Fs rfl rfl, ?_⟩ | refine ⟨Or.inl rfl, ?_⟩ | refine ⟨Or.inr ⟨_, rfl⟩, ?_⟩ | refine ⟨fun _ => ?_, fun h => absurd h (by decide)⟩ | refine ⟨fun h => absurd h (by decide), fun _ => ?_⟩)
        refine mg_cv (k68) (by omega) ?_
        refine ⟨fun q => absurd q (mg_n1 (by omega)), fun _ => ?_⟩
        repeat (first | refine ⟨_, mg_Fs rfl rfl, ?_⟩ | refine ⟨Or.inl rfl, ?_⟩ | refine ⟨Or.inr ⟨_, rfl⟩, ?_⟩ | refine ⟨fun _ => ?_, fun h => absurd h (by decide)⟩ | refine ⟨fun h => absurd h (by decide), fun _ => ?_⟩)
        refine mg_m_mono (c39M d hM 4) (by omega) ?_
        rintro o q G1 ⟨rfl, rfl, w⟩
        exact w
  | true =>
  rw [if_pos rfl]
  have ev : k_v A l p = none := by
    cases ev : k_v A l p with
    | none => rfl
    | some v => unfold t_nw at b2; rw [ev] at b2; cases b2
  have ef : k_f A l p = none := by
    cases ef : k_f A l p with
    | none => rfl
    | some v => unfold t_nw at b2; rw [ev, ef] at b2; cases b2
  rw [ev] at k69
  rw [ef] at k68
  obtain ⟨r, hr⟩ := zP_97 hW hl6 hE
  rw [hr]
  have hwn := (k_W_nm hp hK1).1
  have st : ∀ Q : mg_Q, (∀ G1, sM G0 G1 A l (k_E l p) → yI G1 A l (k_E l p) 0 → mg_wp (mg_KC scr t) mc_45 (d + 189) 86 [some (.ref 3), some (.long (a_pk (k_W l p))), none] [] G1 Q) → mg_m (mg_KC scr t) (d + 190) 45 [.ref 3] G Q := fun Q g => by
    refine mg_me [86] 60 my_45 ms_45 (Nat.le_of_ble_eq_true rfl) ?_
    repeat (first | refine ⟨_, mg_Fs rfl rfl, ?_⟩ | refine ⟨Or.inl rfl, ?_⟩ | refine ⟨Or.inr ⟨_, rfl⟩, ?_⟩ | refine ⟨fun _ => ?_, fun h => absurd h (by decide)⟩ | refine ⟨fun h => absurd h (by decide), fun _ => ?_⟩)
    refine mg_cv (kn) (by omega) ?_
    refine ⟨fun _ => ?_, fun q => absurd q (by decide)⟩
    repeat (first | refine ⟨_, mg_Fs rfl rfl, ?_⟩ | refine ⟨Or.inl rfl, ?_⟩ | refine ⟨Or.inr ⟨_, rfl⟩, ?_⟩ | refine ⟨fun _ => ?_, fun h => absurd h (by decide)⟩ | refine ⟨fun h => absurd h (by decide), fun _ => ?_⟩)
    refine mg_cn (c39y d 1) (by omega) ?_
    repeat (first | refine ⟨_, mg_Fs rfl rfl, ?_⟩ | refine ⟨Or.inl rfl, ?_⟩ | refine ⟨Or.inr ⟨_, rfl⟩, ?_⟩ | refine ⟨fun _ => ?_, fun h => absurd h (by decide)⟩ | refine ⟨fun h => absurd h (by decide), fun _ => ?_⟩)
    refine ⟨_, mg_Fe h7 rfl rfl, ?_⟩
    repeat (first | refine ⟨_, mg_Fs rfl rfl, ?_⟩ | refine ⟨Or.inl rfl, ?_⟩ | refine ⟨Or.inr ⟨_, rfl⟩, ?_⟩ | refine ⟨fun _ => ?_, fun h => absurd h (by decide)⟩ | refine ⟨fun h => absurd h (by decide), fun _ => ?_⟩)
    refine mg_cv (k69) (by omega) ?_
    refine ⟨fun q => absurd rfl q, fun _ => ?_⟩
    repeat (first | refine ⟨_, mg_Fs rfl rfl, ?_⟩ | refine ⟨Or.inl rfl, ?_⟩ | refine ⟨Or.inr ⟨_, rfl⟩, ?_⟩ | refine ⟨fun _ => ?_, fun h => absurd h (by decide)⟩ | refine ⟨fun h => absurd h (by decide), fun _ => ?_⟩)
    refine mg_cv (k68) (by omega) ?_
    refine ⟨fun _ => ?_, fun q => absurd rfl q⟩
    repeat (first | refine ⟨_, mg_Fs rfl rfl, ?_⟩ | refine ⟨Or.inl rfl, ?_⟩ | refine ⟨Or.inr ⟨_, rfl⟩, ?_⟩ | refine ⟨fun _ => ?_, fun h => absurd h (by decide)⟩ | refine ⟨fun h => absurd h (by decide), fun _ => ?_⟩)
    refine mg_cn (c39y d 4) (by omega) ?_
    repeat (first | refine ⟨_, mg_Fs rfl rfl, ?_⟩ | refine ⟨Or.inl rfl, ?_⟩ | refine ⟨Or.inr ⟨_, rfl⟩, ?_⟩ | refine ⟨fun _ => ?_, fun h => absurd h (by decide)⟩ | refine ⟨fun h => absurd h (by decide), fun _ => ?_⟩)
    refine mg_m_mono (c93M d hM hp) (by omega) ?_
    rintro o q G1 ⟨rfl, rfl, hM1⟩
    repeat (first | refine ⟨_, mg_Fs rfl rfl, ?_⟩ | refine ⟨Or.inl rfl, ?_⟩ | refine ⟨Or.inr ⟨_, rfl⟩, ?_⟩ | refine ⟨fun _ => ?_, fun h => absurd h (by decide)⟩ | refine ⟨fun h => absurd h (by decide), fun _ => ?_⟩)
    refine ⟨_, mg_Fe hM1.2.1.1.1 rfl rfl, rfl, _, rfl, rfl, ?_⟩
    have f1 : mg_fr (fun a => a = 27) G1 (mg_sF G1 27 1 (.int (Int32.ofNat (a_wds (aV A))))) := mg_fr.sF _ _ _ rfl
    have hM2 := hM1.c (hM1.2.1.1.fr f1 (fun a ha => by unfold kQ at ha; omega)) hW f1 (fun a ha => by omega)
    exact g _ hM2 ⟨hM2.2.1.1, hW, hM2.2.1.2.2.1, hM2.2.1.2.2.2.1, hM2.2.1.2.2.2.2.1, mg_sF_at _ _ _ _, hM2.2.1.2.2.2.2.2⟩
  refine st _ (fun G1 hM1 hI1 => ?_)
  have kf : mg_m (mg_KC scr t) (d + 8 * (20 - 0) + (7 - 0) + 12) 50 [.ref 3, .int (Int32.ofNat 0), .int (Int32.ofNat 0), .int (Int32.ofNat 0)] G1 (yQ G1 A l 0 0 r) := (yF_all hW 9700).1 0 0 0 _ 0 r G1 (by decide) (by decide) hE (by decide) (Nat.zero_le _) hI1 hr d
  cases r with
  | inl e =>
    refine mg_go [] 60 86 ms_45 ?_
    repeat (first | refine ⟨_, mg_Fs rfl rfl, ?_⟩ | refine ⟨Or.inl rfl, ?_⟩ | refine ⟨Or.inr ⟨_, rfl⟩, ?_⟩ | refine ⟨fun _ => ?_, fun h => absurd h (by decide)⟩ | refine ⟨fun h => absurd h (by decide), fun _ => ?_⟩)
    refine mg_m_mono (kf) (by omega) ?_
    rintro o q G2 ⟨rfl, rfl, w1, w2, w3⟩
    exact ⟨rfl, rfl, hM1.1.tr w1.g, w2, w3⟩
  | inr x =>
    obtain ⟨T, q9⟩ := x
    obtain ⟨m1, m2, m3, m4⟩ := zP_okn hW hE hr
    refine mg_go [] 60 86 ms_45 ?_
    repeat (first | refine ⟨_, mg_Fs rfl rfl, ?_⟩ | refine ⟨Or.inl rfl, ?_⟩ | refine ⟨Or.inr ⟨_, rfl⟩, ?_⟩ | refine ⟨fun _ => ?_, fun h => absurd h (by decide)⟩ | refine ⟨fun h => absurd h (by decide), fun _ => ?_⟩)
    refine mg_m_mono (kf) (by omega) ?_
    rintro o q G2 ⟨rfl, rfl, w1, w2, w3, w4, w5, w6, w7, w8, w9⟩
    have hS2 := hM1.2.1.1.fr w1 (fun a ha => by unfold kQ at ha; omega)
    have hM2 : sM G0 G2 A l q9 := ⟨hM1.1.tr w1.g, ⟨hS2, hW, hM1.2.1.2.2.1.fr w1 (by decide) (by decide), w2, w3, w4⟩, w5.trans hM1.2.2.1, w6.trans hM1.2.2.2⟩
    have hS3 := hS2.wf hW (r := aF A) (n := a_wds (aV A)) (g := fun w => G2.2.1 28 (4 * 0 + w)) (Nat.le_refl _)
    repeat (first | refine ⟨_, mg_Fs rfl rfl, ?_⟩ | refine ⟨Or.inl rfl, ?_⟩ | refine ⟨Or.inr ⟨_, rfl⟩, ?_⟩ | refine ⟨fun _ => ?_, fun h => absurd h (by decide)⟩ | refine ⟨fun h => absurd h (by decide), fun _ => ?_⟩)
    refine ⟨_, mg_Fe hS2.2.1 rfl rfl, ?_⟩
    repeat (first | refine ⟨_, mg_Fs rfl rfl, ?_⟩ | refine ⟨Or.inl rfl, ?_⟩ | refine ⟨Or.inr ⟨_, rfl⟩, ?_⟩ | refine ⟨fun _ => ?_, fun h => absurd h (by decide)⟩ | refine ⟨fun h => absurd h (by decide), fun _ => ?_⟩)
    refine mg_cn (c81 (K := mg_KC scr t) (G := G2) (a := 5) (b := 6) (N := 56) d (aF A) 0 27 28 600 kc_s2.T kc_t3 hS2.1 h4 (by omega) (by omega)) (by omega) ?_
    have hT3 : cRow (cW G2 6 (aF A) (a_wds (aV A)) (fun w => G2.2.1 28 (4 * 0 + w))) 6 (aF A) (a_wds (aV A)) T := fun w hw => (cW_in _ _ _ _ _ _ hw).trans (w7 w hw)
    repeat (first | refine ⟨_, mg_Fs rfl rfl, ?_⟩ | refine ⟨Or.inl rfl, ?_⟩ | refine ⟨Or.inr ⟨_, rfl⟩, ?_⟩ | refine ⟨fun _ => ?_, fun h => absurd h (by decide)⟩ | refine ⟨fun h => absurd h (by decide), fun _ => ?_⟩)
    refine mg_m_mono (c66 d kc_s2 hS3 hW (by omega) hT3 m3 hwn) (by omega) ?_
    rintro o q G4 ⟨rfl, rfl, hS4, hW4, hf4⟩
    have f2 : mg_fr (fun a => a = 6) G2 (cW G2 6 (aF A) (a_wds (aV A)) (fun w => G2.2.1 28 (4 * 0 + w))) := mg_fr.cW _ _ _ _ rfl
    have hM3 := hM2.c hS3 hW f2 (fun a ha => by omega)
    exact ⟨rfl, rfl, hM3.c hS4 hW4 hf4 (fun a ha => by omega)⟩
end KC
