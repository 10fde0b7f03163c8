abbrev yG (G G' : mg_G) : Prop := mg_fr (fun a => 3 ≤ a ∧ a ≤ 29) G G'
theorem yF.g {G G' : mg_G} (h : yF G G') : yG G G' := h.mono (fun a ha => by omega)
/-- a draft is read into, the token at p -/
def sI (G : mg_G) (A : a_A) (l : List Nat) (p : Nat) : Prop := cS G 4 A ∧ aW A ∧ cIn G l ∧ ckB G l ∧ ck G l p ∧ G.2.2.2.2 3 5 = .int (Int32.ofNat 0)
def sM (G0 G : mg_G) (A : a_A) (l : List Nat) (p : Nat) : Prop := yG G0 G ∧ sI G A l p ∧ G.2.2.2.2 3 6 = G0.2.2.2.2 3 6 ∧ G.2.2.2.2 3 7 = G0.2.2.2.2 3 7
/-- the end: an error is thrown, or a state -/
def cD (G0 : mg_G) (l : List Nat) (r : sR) : mg_Q := fun o q G => match r with
  | .inl e => o = .inr xA ∧ q = 1 ∧ yG G0 G ∧ G.2.2.2.2 3 6 = .int e.1 ∧ G.2.2.2.2 3 7 = .int (Int32.ofNat e.2)
  | .inr x => o = .inl none ∧ q = 0 ∧ sM G0 G x.1 l x.2
section SM
variable {G0 G G' : mg_G} {A A' : a_A} {l : List Nat} {p q : Nat}
theorem sI.M (h : sI G A l p) : sM G G A l p := ⟨mg_fr.rf _ _, h, rfl, rfl⟩
theorem sM.t (h : sM G0 G A l p) (hB : ckB G' l) (hk : ck G' l q) (hf : cTf G G') : sM G0 G' A l q :=
  ⟨h.1.tr hf.y.g, ⟨h.2.1.1.fr hf (fun a ha => by unfold kQ at ha; omega), h.2.1.2.1, hf.n h.2.1.2.2.1, hB, hk, (congrFun (hf 3 (by decide)).2.2.2.2 5).trans h.2.1.2.2.2.2.2⟩, (congrFun (hf 3 (by decide)).2.2.2.2 6).trans h.2.2.1, (congrFun (hf 3 (by decide)).2.2.2.2 7).trans h.2.2.2⟩
theorem sM.c (h : sM G0 G A l p) {P : Nat → Prop} (hS : cS G' 4 A') (hW : aW A') (hf : mg_fr P G G') (hP : ∀ a, P a → 4 ≤ a ∧ a ≤ 29 ∧ a ≠ 12) : sM G0 G' A' l p := by
  have n : ∀ a, a < 4 ∨ a = 12 → ¬ P a := fun a ha z => by have := hP a z; omega
  have f3 := (hf 3 (n 3 (by decide))).2.2.2.2
  have f12 := (hf 12 (n 12 (by decide))).2.2.2.2
  exact ⟨h.1.tr (hf.mono (fun a ha => by have := hP a ha; omega)), ⟨hS, hW, h.2.1.2.2.1.fr hf (n 1 (by decide)) (n 2 (by decide)), h.2.1.2.2.2.1.f f12, h.2.1.2.2.2.2.1.f f12, (congrFun f3 5).trans h.2.1.2.2.2.2.2⟩, (congrFun f3 6).trans h.2.2.1, (congrFun f3 7).trans h.2.2.2⟩
theorem sM.x (h : sM G0 G A l p) (c : Int32) : cD G0 l (.inl (c, k_S l p)) (.inr xA) 1 (yX G c l p) := ⟨rfl, rfl, h.1.tr (yX_F G c l p).g, (mg_sF_ne _ _ (by decide)).trans (mg_sF_at _ _ _ _), mg_sF_at _ _ _ _⟩
theorem sM.Q (h : sM G0 G A l p) : cD G0 l (.inr (A, p)) (.inl none) 0 G := ⟨rfl, rfl, h⟩
end SM
section KC
variable {scr : Nat × (Nat → Int32)} {t : List mg_S} {G G0 : mg_G} {A : a_A} {l : List Nat} {p : Nat}
theorem c93M (d : Nat) (h : sM G0 G A l p) (hp : p ≤ l.length) : mg_m (mg_KC scr t) (d + 2) 93 [.ref 12] G (fun o q G' => o = .inl none ∧ q = 0 ∧ sM G0 G' A l (k_E l p)) := mg_m_mono (c93 d h.2.1.2.2.1 (k_E_le hp) h.2.1.2.2.2.1 h.2.1.2.2.2.2.1.1) (Nat.le_refl _) (fun o q G' w => ⟨w.1, w.2.1, h.t w.2.2.1 w.2.2.2.1 w.2.2.2.2⟩)
theorem c39M (d : Nat) (h : sM G0 G A l p) (c : Int32) : mg_m (mg_KC scr t) (d + 1) 39 [.ref 3, .int 1, .int c] G (fun o q G' => o = .inr xA ∧ q = 1 ∧ cD G0 l (.inl (c, k_S l p)) (.inr xA) 1 G') := mg_m_mono (c39x d h.2.1.2.2.2.2.1 c) (Nat.le_refl _) (fun o q G' ⟨w1, w2, w3⟩ => ⟨w1, w2, w3 ▸ h.x c⟩)
theorem c98M (d : Nat) (h : sM G0 G A l p) (hp : p ≤ l.length) : mg_m (mg_KC scr t) (d + 1) 98 [.ref 12] G (mg_v (.int (b2 (k_nm l p))) G) := c98 d h.2.1.2.2.2.2.1 hp
/-- a new function's name, behind its word -/
theorem c45 (d : Nat) (hM : sM G0 G A l p) (hp : p ≤ l.length) : mg_m (mg_KC scr t) (d + 190) 45 [.ref 3] G (fun o q G' => (k_nm l p = true ∧ t_nw A l p = true ∧ o = .inl (some (.long (a_pk (k_W l p)))) ∧ q = 0 ∧ sM G0 G' A l (k_E l p)) ∨ (∃ e, tNew A l p = .inl e ∧ o = .inr xA ∧ q = 1 ∧ cD G0 l (.inl e) (.inr xA) 1 G')) := by
  obtain ⟨hS, hW, hN, hB, hk, h5⟩ := hM.2.1
  have h8 : aV A ≤ 8 := hW.2.1.2.2.2
  have hf12 := hW.2.2.1
  have hl6 := hN.2.1
  have kn := c98M (scr := scr) (t := t) d hM hp
  unfold tNew
  cases b1 : k_nm l p with
  | false =>
    rw [b1] at kn
    refine mg_me [] 60 my_45 ms_45 (Nat.le_of_ble_eq_true rfl) ?_
    repeat (first | refine ⟨_, mg_Fs rfl rfl, ?_⟩ | refine ⟨Or.inl rfl, ?_⟩ | refine ⟨Or.inr ⟨_, rfl⟩, ?_⟩ | refine ⟨fun _ => ?_, fun h => absurd h (by decide)⟩ | refine ⟨fun h => absurd h (by decide), fun _ => ?_⟩)
    refine mg_cv (kn) (by omega) ?_
    refine ⟨fun q => absurd rfl q, fun _ => ?_⟩
    repeat (first | refine ⟨_, mg_Fs rfl rfl, ?_⟩ | refine ⟨Or.inl rfl, ?_⟩ | refine ⟨Or.inr ⟨_, rfl⟩, ?_⟩ | refine ⟨fun _ => ?_, fun h => absurd h (by decide)⟩ | refine ⟨fun h => absurd h (by decide), fun _ => ?_⟩)
    refine mg_m_mono (c39M d hM 1) (by omega) ?_
    rintro o q G1 ⟨rfl, rfl, w⟩
    exact Or.inr ⟨_, if_neg (by decide), rfl, rfl, w⟩
  | true =>
  rw [b1] at kn
  have hK1 := k_nm_1 b1
  have h7 := hk.2.2.2.1 hK1
  have k69 := c69A (scr := scr) (t := t) d hS hW hp hK1
  have k68 := c68A (scr := scr) (t := t) d hS hW hp hK1
  cases b2 : t_nw A l p with
  | false =>
    cases ev : k_v A l p with
    | some v =>
      have hv2 : v < aV A := k_at_lt ev
      rw [ev] at k69
      refine mg_me [] 60 my_45 ms_45 (Nat.le_of_ble_eq_true rfl) ?_
      repeat (first | refine ⟨_, mg_Fs rfl rfl, ?_⟩ | refine ⟨Or.inl rfl, ?_⟩ | refine ⟨Or.inr ⟨_, rfl⟩, ?_⟩ | refine ⟨fun _ => ?_, fun h => absurd h (by decide)⟩ | refine ⟨fun h => absurd h (by decide), fun _ => ?_⟩)
      refine mg_cv (kn) (by omega) ?_
      refine ⟨fun _ => ?_, fun q => absurd q (by decide)⟩
      repeat (first | refine ⟨_, mg_Fs rfl rfl, ?_⟩ | refine ⟨Or.inl rfl, ?_⟩ | refine ⟨Or.inr ⟨_, rfl⟩, ?_⟩ | refine ⟨fun _ => ?_, fun h => absurd h (by decide)⟩ | refine ⟨fun h => absurd h (by decide), fun _ => ?_⟩)
      refine mg_cn (c39y d 1) (by omega) ?_
      repeat (first | refine ⟨_, mg_Fs rfl rfl, ?_⟩ | refine ⟨Or.inl rfl, ?_⟩ | refine ⟨Or.inr ⟨_, rfl⟩, ?_⟩ | refine ⟨fun _ => ?_, fun h => absurd h (by decide)⟩ | refine ⟨fun h => absurd h (by decide), fun _ => ?_⟩)
      refine ⟨_, mg_Fe h7 rfl rfl, ?_⟩
      repeat (first | refine ⟨_, mg_Fs rfl rfl, ?_⟩ | refine ⟨Or.inl rfl, ?_⟩ | refine ⟨Or.inr ⟨_, rfl⟩, ?_⟩ | refine ⟨fun _ => ?_, fun h => absurd h (by decide)⟩ | refine ⟨fun h => absurd h (by decide), fun _ => ?_⟩)
      refine mg_cv (k69) (by omega) ?_
      refine ⟨fun _ => ?_, fun q => absurd q (mg_n1 (by omega))⟩
      repeat (first | refine ⟨_, mg_Fs rfl rfl, ?_⟩ | refine ⟨Or.inl rfl, ?_⟩ | refine ⟨Or.inr ⟨_, rfl⟩, ?_⟩ | refine ⟨fun _ => ?_, fun h => absurd h (by decide)⟩ | refine ⟨fun h => absurd h (by decide), fun _ => ?_⟩)
      refine mg_m_mono (c39M d hM 4) (by omega) ?_
      rintro o q G1 ⟨rfl, rfl, w⟩
      exact Or.inr ⟨_, (if_pos rfl).trans (if_neg (by decide)), rfl, rfl, w⟩
    | none =>
      cases ef : k_f A l p with
      | none =>
        unfold t_nw at b2
        rw [ev, ef] at b2
        cases b2
      | some f =>
        have hf2 : f < aF A := k_at_lt ef
        rw [ev] at k69
        rw [ef] at k68
        refine mg_me [] 60 my_45 ms_45 (Nat.le_of_ble_eq_true rfl) ?_
        repeat (first | refine ⟨_, mg_Fs rfl rfl, ?_⟩ | refine ⟨Or.inl rfl, ?_⟩ | refine ⟨Or.inr ⟨_, rfl⟩, ?_⟩ | refine ⟨fun _ => ?_, fun h => absurd h (by decide)⟩ | refine ⟨fun h => absurd h (by decide), fun _ => ?_⟩)
        refine mg_cv (kn) (by omega) ?_
        refine ⟨fun _ => ?_, fun q => absurd q (by decide)⟩
        repeat (first | refine ⟨_, mg_Fs rfl rfl, ?_⟩ | refine ⟨Or.inl rfl, ?_⟩ | refine ⟨Or.inr ⟨_, rfl⟩, ?_⟩ | refine ⟨fun _ => ?_, fun h => absurd h (by decide)⟩ | refine ⟨fun h => absurd h (by decide), fun _ => ?_⟩)
        refine mg_cn (c39y d 1) (by omega) ?_
        repeat (first | refine ⟨_, mg_Fs rfl rfl, ?_⟩ | refine ⟨Or.inl rfl, ?_⟩ | refine ⟨Or.inr ⟨_, rfl⟩, ?_⟩ | refine ⟨fun _ => ?_, fun h => absurd h (by decide)⟩ | refine ⟨fun h => absurd h (by decide), fun _ => ?_⟩)
        refine ⟨_, mg_Fe h7 rfl rfl, ?_⟩
        repeat (first | refine ⟨_, mg_Fs rfl rfl, ?_⟩ | refine ⟨Or.inl rfl, ?_⟩ | refine ⟨Or.inr ⟨_, rfl⟩, ?_⟩ | refine ⟨fun _ => ?_, fun h => absurd h (by decide)⟩ | refine ⟨fun h => absurd h (by decide), fun _ => ?_⟩)
        refine mg_cv (k69) (by omega) ?_
        refine ⟨fun q => absurd rfl q, fun _ => ?_⟩
        repeat (first | refine ⟨_, mg_Fs rfl rfl, ?_⟩ | refine ⟨Or.inl rfl, ?_⟩ | refine ⟨Or.inr ⟨_, rfl⟩, ?_⟩ | refine ⟨fun _ => ?_, fun h => absurd h (by decide)⟩ | refine ⟨fun h => absurd h (by decide), fun _ => ?_⟩)
        refine mg_cv (k68) (by omega) ?_
        refine ⟨fun q => absurd q (mg_n1 (by omega)), fun _ => ?_⟩
        repeat (first | refine ⟨_, mg_Fs rfl rfl, ?_⟩ | refine ⟨Or.inl rfl, ?_⟩ | refine ⟨Or.inr ⟨_, rfl⟩, ?_⟩ | refine ⟨fun _ => ?_, fun h => absurd h (by decide)⟩ | refine ⟨fun h => absurd h (by decide), fun _ => ?_⟩)
        refine mg_m_mono (c39M d hM 4) (by omega) ?_
        rintro o q G1 ⟨rfl, rfl, w⟩
        exact Or.inr ⟨_, (if_pos rfl).trans (if_neg (by decide)), rfl, rfl, w⟩
  | true =>
  have ev : k_v A l p = none := by
    cases ev : k_v A l p with
    | none => rfl
    | some v => unfold t_nw at b2; rw [ev] at b2; cases b2
  have ef : k_f A l p = none := by
    cases ef : k_f A l p with
    | none => rfl
    | some v => unfold t_nw at b2; rw [ev, ef] at b2; cases b2
  rw [ev] at k69
  rw [ef] at k68
  refine mg_me [] 60 my_45 ms_45 (Nat.le_of_ble_eq_true rfl) ?_
  repeat (first | refine ⟨_, mg_Fs rfl rfl, ?_⟩ | refine ⟨Or.inl rfl, ?_⟩ | refine ⟨Or.inr ⟨_, rfl⟩, ?_⟩ | refine ⟨fun _ => ?_, fun h => absurd h (by decide)⟩ | refine ⟨fun h => absurd h (by decide), fun _ => ?_⟩)
  refine mg_cv (kn) (by omega) ?_
  refine ⟨fun _ => ?_, fun q => absurd q (by decide)⟩
  repeat (first | refine ⟨_, mg_Fs rfl rfl, ?_⟩ | refine ⟨Or.inl rfl, ?_⟩ | refine ⟨Or.inr ⟨_, rfl⟩, ?_⟩ | refine ⟨fun _ => ?_, fun h => absurd h (by decide)⟩ | refine ⟨fun h => absurd h (by decide), fun _ => ?_⟩)
  refine mg_cn (c39y d 1) (by omega) ?_
  repeat (first | refine ⟨_, mg_Fs rfl rfl, ?_⟩ | refine ⟨Or.inl rfl, ?_⟩ | refine ⟨Or.inr ⟨_, rfl⟩, ?_⟩ | refine ⟨fun _ => ?_, fun h => absurd h (by decide)⟩ | refine ⟨fun h => absurd h (by decide), fun _ => ?_⟩)
  refine ⟨_, mg_Fe h7 rfl rfl, ?_⟩
  repeat (first | refine ⟨_, mg_Fs rfl rfl, ?_⟩ | refine ⟨Or.inl rfl, ?_⟩ | refine ⟨Or.inr ⟨_, rfl⟩, ?_⟩ | refine ⟨fun _ => ?_, fun h => absurd h (by decide)⟩ | refine ⟨fun h => absurd h (by decide), fun _ => ?_⟩)
  refine mg_cv (k69) (by omega) ?_
  refine ⟨fun q => absurd rfl q, fun _ => ?_⟩
  repeat (first | refine ⟨_, mg_Fs rfl rfl, ?_⟩ | refine ⟨Or.inl rfl, ?_⟩ | refine ⟨Or.inr ⟨_, rfl⟩, ?_⟩ | refine ⟨fun _ => ?_, fun h => absurd h (by decide)⟩ | refine ⟨fun h => absurd h (by decide), fun _ => ?_⟩)
  refine mg_cv (k68) (by omega) ?_
  refine ⟨fun _ => ?_, fun q => absurd rfl q⟩
  repeat (first | refine ⟨_, mg_Fs rfl rfl, ?_⟩ | refine ⟨Or.inl rfl, ?_⟩ | refine ⟨Or.inr ⟨_, rfl⟩, ?_⟩ | refine ⟨fun _ => ?_, fun h => absurd h (by decide)⟩ | refine ⟨fun h => absurd h (by decide), fun _ => ?_⟩)
  refine mg_cn (c39y d 4) (by omega) ?_
  repeat (first | refine ⟨_, mg_Fs rfl rfl, ?_⟩ | refine ⟨Or.inl rfl, ?_⟩ | refine ⟨Or.inr ⟨_, rfl⟩, ?_⟩ | refine ⟨fun _ => ?_, fun h => absurd h (by decide)⟩ | refine ⟨fun h => absurd h (by decide), fun _ => ?_⟩)
  refine mg_m_mono (c93M d hM hp) (by omega) ?_
  rintro o q G1 ⟨rfl, rfl, hM1⟩
  exact Or.inl ⟨rfl, rfl, rfl, rfl, hM1⟩
end KC
