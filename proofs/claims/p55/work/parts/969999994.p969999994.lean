/-- what a system's reading leaves of S -/
def sLd (S : a_S) (r : zEr ⊕ (a_A × Nat)) : a_S × qR := match r with
  | .inl e => ((sA S, sU S, sV S, [], e.1, Int32.ofNat e.2, sW S), (1, 0))
  | .inr x => ((x.1, [], fun _ => none, [], 0, Int32.ofInt (-1), sW S), (0, Int32.ofNat (aF x.1)))
def p245 (S : a_S) : a_S × qR := sLd S (tY (sIn S))
section RM
variable {scr : Nat × (Nat → Int32)} {t : List mg_S} {G : mg_G} {S : a_S}
end RM
section KC
variable {scr : Nat × (Nat → Int32)} {t : List mg_S} {G : mg_G} {S : a_S}
theorem c106 (d : Nat) (hT : cT G S) : mg_m (mg_KC scr t) (d + 203) 106 [.ref 0] G (cAp G (ex1 xA) (p245 S)) := by
  have hN := hT.2.2.2.2.1
  have hl6 := hN.2.1
  unfold p245 cAp
  obtain ⟨r, hr⟩ : ∃ r, r = tY (sIn S) := ⟨_, rfl⟩
  rw [← hr]
  refine mg_me [] 90 my_106 ms_106 (Nat.le_of_ble_eq_true rfl) ?_
  repeat (first | refine ⟨_, mg_Fs rfl rfl, ?_⟩ | refine ⟨Or.inl rfl, ?_⟩ | refine ⟨Or.inr ⟨_, rfl⟩, ?_⟩ | refine ⟨fun _ => ?_, fun h => absurd h (by decide)⟩ | refine ⟨fun h => absurd h (by decide), fun _ => ?_⟩)
  refine mg_m_mono (c36 d hN hr) (by omega) ?_
  rintro o q G1 w
  rcases r with e9 | x
  · obtain ⟨rfl, rfl, f1, h6, h7⟩ := w
    have f2 : mg_fr (fun a => a = 1 ∨ (3 ≤ a ∧ a ≤ 29)) G (mg_sF G1 1 1 (.int 0)) := (f1.mono (fun a ha => Or.inr ha)).tr (mg_fr.sF _ _ _ (Or.inl rfl))
    have hT2 := hT.rd f2 (cIn.n0 (mg_sF_at _ _ _ _)) (c := e9.1) (q := Int32.ofNat e9.2) ((mg_sF_ne _ _ (by decide)).trans h6) ((mg_sF_ne _ _ (by decide)).trans h7)
    repeat (first | refine ⟨_, mg_Fs rfl rfl, ?_⟩ | refine ⟨Or.inl rfl, ?_⟩ | refine ⟨Or.inr ⟨_, rfl⟩, ?_⟩ | refine ⟨fun _ => ?_, fun h => absurd h (by decide)⟩ | refine ⟨fun h => absurd h (by decide), fun _ => ?_⟩)
    refine ⟨rfl, _, rfl, rfl, fun q => absurd rfl q, fun _ => ?_⟩
    exact ⟨Nat.le_of_ble_eq_true rfl, Or.inr ⟨show (1 : Int32) ≠ 0 by decide, rfl⟩, show 1 + 1 ≤ 2 by decide, hT2, f2.mono (fun a ha => by show a < 148; omega)⟩
  · obtain ⟨A', m⟩ := x
    obtain ⟨rfl, rfl, f1, hS1, hW1, h6, h7⟩ := w
    have f2 : mg_fr (fun a => a = 1 ∨ (3 ≤ a ∧ a ≤ 29)) G (mg_sF G1 1 1 (.int 0)) := (f1.mono (fun a ha => Or.inr ha)).tr (mg_fr.sF _ _ _ (Or.inl rfl))
    have hT2 := hT.rd f2 (cIn.n0 (mg_sF_at _ _ _ _)) (c := 0) (q := Int32.ofInt (-1)) ((mg_sF_ne _ _ (by decide)).trans h6) ((mg_sF_ne _ _ (by decide)).trans h7)
    have hS2 : cS (mg_sF G1 1 1 (.int 0)) 4 A' := hS1.fr (mg_fr.sF (p := fun a => a = 1) G1 1 (.int 0) rfl) (fun a ha => by unfold kQ at ha; omega)
    repeat (first | refine ⟨_, mg_Fs rfl rfl, ?_⟩ | refine ⟨Or.inl rfl, ?_⟩ | refine ⟨Or.inr ⟨_, rfl⟩, ?_⟩ | refine ⟨fun _ => ?_, fun h => absurd h (by decide)⟩ | refine ⟨fun h => absurd h (by decide), fun _ => ?_⟩)
    refine ⟨rfl, _, rfl, rfl, fun _ => ?_, fun q => absurd q (by decide)⟩
    repeat (first | refine ⟨_, mg_Fs rfl rfl, ?_⟩ | refine ⟨Or.inl rfl, ?_⟩ | refine ⟨Or.inr ⟨_, rfl⟩, ?_⟩ | refine ⟨fun _ => ?_, fun h => absurd h (by decide)⟩ | refine ⟨fun h => absurd h (by decide), fun _ => ?_⟩)
    refine mg_m_mono (c28 d hT2.2.2.1) (by omega) ?_
    rintro o q G3 ⟨rfl, rfl, hU3, f3⟩
    repeat (first | refine ⟨_, mg_Fs rfl rfl, ?_⟩ | refine ⟨Or.inl rfl, ?_⟩ | refine ⟨Or.inr ⟨_, rfl⟩, ?_⟩ | refine ⟨fun _ => ?_, fun h => absurd h (by decide)⟩ | refine ⟨fun h => absurd h (by decide), fun _ => ?_⟩)
    refine mg_m_mono (c29 d) (by omega) ?_
    rintro o q G4 ⟨rfl, rfl, v0, v1, f4⟩
    have hS4 : cS G4 4 A' := (hS2.fr f3 (fun a ha => by unfold kQ at ha; omega)).fr f4 (fun a ha => by unfold kQ at ha; omega)
    repeat (first | refine ⟨_, mg_Fs rfl rfl, ?_⟩ | refine ⟨Or.inl rfl, ?_⟩ | refine ⟨Or.inr ⟨_, rfl⟩, ?_⟩ | refine ⟨fun _ => ?_, fun h => absurd h (by decide)⟩ | refine ⟨fun h => absurd h (by decide), fun _ => ?_⟩)
    refine mg_m_mono (c164 d kc_s2 (Or.inr (by decide)) hS4 hW1) (by omega) ?_
    rintro o q G5 ⟨rfl, rfl, hS5, h0, f5⟩
    have f6 : mg_fr (fun a => a = 0 ∨ kQ 30 a ∨ a = 38 ∨ a = 41) (mg_sF G1 1 1 (.int 0)) G5 := ((f3.mono (fun a ha => Or.inr (Or.inr (Or.inl ha)))).tr (f4.mono (fun a ha => Or.inr (Or.inr (Or.inr ha))))).tr (f5.mono (fun a ha => ha.elim Or.inl (fun z => Or.inr (Or.inl z))))
    have hV5 : cSv G5 (fun _ => none) := by
      refine ⟨fun s hs => (congrFun (f6 40 (by unfold kQ; omega)).2.2.2.1 s).trans (hT2.2.2.2.1.1 s hs), fun s hs => ⟨?_, fun B hB => nomatch hB⟩⟩
      refine (congrFun (f5 41 (by unfold kQ; omega)).1 s).trans ?_
      rcases (show s = 0 ∨ s = 1 by omega) with rfl | rfl
      · exact v0
      · exact v1
    have e3 := (f6 3 (by unfold kQ; omega)).2.2.2.2
    have hT5 : cT G5 (A', [], fun _ => none, [], 0, Int32.ofInt (-1), sW S) := ⟨hS5, hW1, (hU3.fr2 f4 (fun a ha => by omega)).fr f5 (fun a ha => by unfold kQ; omega), hV5, hT2.2.2.2.2.1.fr f6 (by unfold kQ; omega) (by unfold kQ; omega), ⟨(congrFun e3 6).trans hT2.2.2.2.2.2.1.1, (congrFun e3 7).trans hT2.2.2.2.2.2.1.2⟩, hT2.2.2.2.2.2.2.1.fr f6 (by unfold kQ; omega) (by unfold kQ; omega), Or.inl h0⟩
    repeat (first | refine ⟨_, mg_Fs rfl rfl, ?_⟩ | refine ⟨Or.inl rfl, ?_⟩ | refine ⟨Or.inr ⟨_, rfl⟩, ?_⟩ | refine ⟨fun _ => ?_, fun h => absurd h (by decide)⟩ | refine ⟨fun h => absurd h (by decide), fun _ => ?_⟩)
    refine ⟨_, mg_Fe hS5.2.1 rfl rfl, Or.inl rfl, ?_⟩
    exact cA_v hT5 ((f2.mono (fun a ha => by show a < 148; omega)).tr (f6.mono (fun a ha => by unfold kQ at ha; show a < 148; omega))) rfl
end KC
