/-! LOAD, on both sides -/
/-- what a system's reading leaves of S -/
def sLd (S : a_S) (r : zEr ⊕ (a_A × Nat)) : a_S × qR := match r with
  | .inl e => ((sA S, sU S, sV S, [], e.1, Int32.ofNat e.2, sW S), (1, 0))
  | .inr x => ((x.1, [], fun _ => none, [], 0, Int32.ofInt (-1), sW S), (0, Int32.ofNat (aF x.1)))
def p245 (S : a_S) : a_S × qR := sLd S (tY (sIn S))
section RM
variable {scr : Nat × (Nat → Int32)} {t : List mg_S} {G : mg_G} {S : a_S}
theorem r245 (d : Nat) (hT : rT G S) : mg_m (mg_KM scr t) (d + 803) 245 [.ref 148] G (rAp G (p245 S)) := by
  have hN := hT.2.2.2.2.1
  have hl6 := hN.2.1
  have hB1 := hT.B9.cp (a := 0) (b := 11) (Or.inr rfl)
  have h11 : bS (cpm G 0 11) 11 (sA S) := hT.2.1.to
  have hN1 : rIn (cpm G 0 11) (sIn S) := ⟨hN.1, hN.2.1, fun i c hi => by rw [(rY.cp G 0 11).1 152 (by decide)]; exact hN.2.2 i c hi⟩
  unfold p245 rAp
  obtain ⟨r, hr⟩ : ∃ r, r = tY (sIn S) := ⟨_, rfl⟩
  rw [← hr]
  refine mg_me [] 90 my_245 ms_245 (Nat.le_of_ble_eq_true rfl) ?_
  repeat (first | refine ⟨_, mg_Fs rfl rfl, ?_⟩ | refine ⟨_, mg_Fd rfl rfl, ?_⟩ | refine ⟨Or.inl rfl, ?_⟩ | refine ⟨Or.inr ⟨_, rfl⟩, ?_⟩ | refine ⟨fun _ => ?_, fun h => absurd h (by decide)⟩ | refine ⟨fun h => absurd h (by decide), fun _ => ?_⟩)
  refine mg_cn (r184m d 0 11 (by decide) (by decide)) (by omega) ?_
  repeat (first | refine ⟨_, mg_Fs rfl rfl, ?_⟩ | refine ⟨Or.inl rfl, ?_⟩ | refine ⟨Or.inr ⟨_, rfl⟩, ?_⟩ | refine ⟨fun _ => ?_, fun h => absurd h (by decide)⟩ | refine ⟨fun h => absurd h (by decide), fun _ => ?_⟩)
  refine mg_m_mono (r211 d hN1) (by omega) ?_
  rintro o q G2 ⟨rfl, rfl, f2, hN2, hk2, h62, h72, e1, e2⟩
  repeat (first | refine ⟨_, mg_Fs rfl rfl, ?_⟩ | refine ⟨Or.inl rfl, ?_⟩ | refine ⟨Or.inr ⟨_, rfl⟩, ?_⟩ | refine ⟨fun _ => ?_, fun h => absurd h (by decide)⟩ | refine ⟨fun h => absurd h (by decide), fun _ => ?_⟩)
  refine mg_m_mono (r244 d (hB1.t f2).1 hN2 hk2 hr) (by omega) ?_
  rintro o q G3 w
  rcases r with e9 | x
  · obtain ⟨rfl, f3, rfl, h6, h7⟩ := w
    have f4 := f2.tr f3
    have hB4 := ((hB1.t f4).s 5 (.int 0) (by decide) (by decide)).cp (a := 11) (b := 0) (Or.inl rfl)
    have h05 : bS (cpm (mg_sF G3 148 5 (.int 0)) 11 0) 0 (sA S) := ((h11.t f4 (by decide)).sF 148 5 (.int 0)).to
    have hT5 := ((hB4.s 10 (.int 1) (by decide) (by decide)).T (h05.sF 148 10 (.int 1)) (l := []) (rIn.n0 ((mg_sF_ne _ _ (by decide)).trans (mg_sF_at _ _ _ _))) (c := e9.1) (q := Int32.ofNat e9.2) ((mg_sF_ne _ _ (by decide)).trans ((mg_sF_ne _ _ (by decide)).trans h6)) ((mg_sF_ne _ _ (by decide)).trans ((mg_sF_ne _ _ (by decide)).trans h7)))
    repeat (first | refine ⟨_, mg_Fs rfl rfl, ?_⟩ | refine ⟨Or.inl rfl, ?_⟩ | refine ⟨Or.inr ⟨_, rfl⟩, ?_⟩ | refine ⟨fun _ => ?_, fun h => absurd h (by decide)⟩ | refine ⟨fun h => absurd h (by decide), fun _ => ?_⟩)
    refine ⟨rfl, _, rfl, rfl, fun q => absurd rfl q, fun _ => ?_⟩
    repeat (first | refine ⟨_, mg_Fs rfl rfl, ?_⟩ | refine ⟨_, mg_Fd rfl rfl, ?_⟩ | refine ⟨Or.inl rfl, ?_⟩ | refine ⟨Or.inr ⟨_, rfl⟩, ?_⟩ | refine ⟨fun _ => ?_, fun h => absurd h (by decide)⟩ | refine ⟨fun h => absurd h (by decide), fun _ => ?_⟩)
    refine mg_cn (r184m d 11 0 (by decide) (by decide)) (by omega) ?_
    refine ⟨fun q => absurd rfl q, fun _ => ?_⟩
    repeat (first | refine ⟨_, mg_Fs rfl rfl, ?_⟩ | refine ⟨Or.inl rfl, ?_⟩ | refine ⟨Or.inr ⟨_, rfl⟩, ?_⟩ | refine ⟨fun _ => ?_, fun h => absurd h (by decide)⟩ | refine ⟨fun h => absurd h (by decide), fun _ => ?_⟩)
    refine mg_cv (r176_1 d _ _) (by omega) ?_
    refine ⟨fun q => absurd q (by decide), fun _ => ?_⟩
    exact ⟨Or.inl rfl, rfl, rfl, mg_sF_at _ _ _ _, hT5, ((((rY.cp G 0 11).F.tr f4.F).tr (rF.s _ _ _)).tr (rY.cp _ 11 0).F).tr (rF.s _ _ _)⟩
  · obtain ⟨A', m⟩ := x
    obtain ⟨rfl, f3, rfl, hI3, h6, h7⟩ := w
    have f4 := f2.tr f3
    have hB5 := ((hB1.t f4).s 5 (.int 0) (by decide) (by decide)).s 10 (.int 0) (by decide) (by decide)
    repeat (first | refine ⟨_, mg_Fs rfl rfl, ?_⟩ | refine ⟨Or.inl rfl, ?_⟩ | refine ⟨Or.inr ⟨_, rfl⟩, ?_⟩ | refine ⟨fun _ => ?_, fun h => absurd h (by decide)⟩ | refine ⟨fun h => absurd h (by decide), fun _ => ?_⟩)
    refine ⟨rfl, _, rfl, rfl, fun _ => ?_, fun q => absurd q (by decide)⟩
    refine ⟨fun _ => ?_, fun q => absurd q (by decide)⟩
    repeat (first | refine ⟨_, mg_Fs rfl rfl, ?_⟩ | refine ⟨Or.inl rfl, ?_⟩ | refine ⟨Or.inr ⟨_, rfl⟩, ?_⟩ | refine ⟨fun _ => ?_, fun h => absurd h (by decide)⟩ | refine ⟨fun h => absurd h (by decide), fun _ => ?_⟩)
    refine mg_cv (r176_0 d) (by omega) ?_
    refine ⟨fun _ => ?_, fun q => absurd rfl q⟩
    refine ⟨rfl, _, rfl, rfl, ?_⟩
    repeat (first | refine ⟨_, mg_Fs rfl rfl, ?_⟩ | refine ⟨Or.inl rfl, ?_⟩ | refine ⟨Or.inr ⟨_, rfl⟩, ?_⟩ | refine ⟨fun _ => ?_, fun h => absurd h (by decide)⟩ | refine ⟨fun h => absurd h (by decide), fun _ => ?_⟩)
    refine ⟨3, 2, 0, rfl, ⟨by decide, by decide⟩, by decide, Or.inr rfl, ?_⟩
    repeat (first | refine ⟨_, mg_Fs rfl rfl, ?_⟩ | refine ⟨Or.inl rfl, ?_⟩ | refine ⟨Or.inr ⟨_, rfl⟩, ?_⟩ | refine ⟨fun _ => ?_, fun h => absurd h (by decide)⟩ | refine ⟨fun h => absurd h (by decide), fun _ => ?_⟩)
    refine ⟨3, 2, 1, rfl, ⟨by decide, by decide⟩, by decide, Or.inr rfl, ?_⟩
    have y149 : (mg_sI (mg_sI (mg_sF (mg_sF (mg_sF G3 148 5 (.int 0)) 148 10 (.int 0)) 148 3 (.int 0)) 151 0 0) 151 1 0).1 149 = G3.1 149 := (mg_sI_nb _ _ _ (show (149 : Nat) ≠ 151 by decide)).trans (mg_sI_nb _ _ _ (show (149 : Nat) ≠ 151 by decide))
    have y153 : (mg_sI (mg_sI (mg_sF (mg_sF (mg_sF G3 148 5 (.int 0)) 148 10 (.int 0)) 148 3 (.int 0)) 151 0 0) 151 1 0).1 153 = G3.1 153 := (mg_sI_nb _ _ _ (show (153 : Nat) ≠ 151 by decide)).trans (mg_sI_nb _ _ _ (show (153 : Nat) ≠ 151 by decide))
    have y3 : ∀ k, k ≠ 3 → (mg_sI (mg_sI (mg_sF (mg_sF (mg_sF G3 148 5 (.int 0)) 148 10 (.int 0)) 148 3 (.int 0)) 151 0 0) 151 1 0).2.2.2.2 148 k = (mg_sF (mg_sF G3 148 5 (.int 0)) 148 10 (.int 0)).2.2.2.2 148 k := fun k hk => mg_sF_ne _ _ (by omega)
    have hT6 : rT (mg_sI (mg_sI (mg_sF (mg_sF (mg_sF G3 148 5 (.int 0)) 148 10 (.int 0)) 148 3 (.int 0)) 151 0 0) 151 1 0) (A', [], fun _ => none, [], 0, Int32.ofInt (-1), sW S) := by
      refine ⟨hB5.1, ⟨hI3.b.1.c y149 rfl, hI3.b.2⟩, ⟨mg_sF_at _ _ _ _, show ([] : List a_A).length ≤ 8 by decide, fun i B hi => absurd (show (none : Option a_A) = some B from hi) (fun q => nomatch q)⟩, fun s hs => ⟨?_, fun B hB => nomatch hB⟩, rIn.n0 ((y3 5 (by decide)).trans ((mg_sF_ne _ _ (by decide)).trans (mg_sF_at _ _ _ _))), ⟨(y3 6 (by decide)).trans ((mg_sF_ne _ _ (by decide)).trans ((mg_sF_ne _ _ (by decide)).trans (h6.trans h62))), (y3 7 (by decide)).trans ((mg_sF_ne _ _ (by decide)).trans ((mg_sF_ne _ _ (by decide)).trans (h7.trans h72)))⟩, ⟨(y3 9 (by decide)).trans hB5.2.2.2.1, hB5.2.2.2.2.1, fun i c hi => by rw [y153]; exact hB5.2.2.2.2.2 i c hi⟩⟩
      rcases (show s = 0 ∨ s = 1 by omega) with rfl | rfl
      · exact (mg_sI_ne _ _ _ _ (by decide)).trans (mg_sI_eq _ _ _ _)
      · exact mg_sI_eq _ _ _ _
    repeat (first | refine ⟨_, mg_Fs rfl rfl, ?_⟩ | refine ⟨Or.inl rfl, ?_⟩ | refine ⟨Or.inr ⟨_, rfl⟩, ?_⟩ | refine ⟨fun _ => ?_, fun h => absurd h (by decide)⟩ | refine ⟨fun h => absurd h (by decide), fun _ => ?_⟩)
    refine mg_cv (r179n d hT6.I.f) (by omega) ?_
    exact ⟨Or.inl rfl, rfl, rfl, (y3 10 (by decide)).trans (mg_sF_at _ _ _ _), hT6, ((((((rY.cp G 0 11).F.tr f4.F).tr (rF.s _ _ _)).tr (rF.s _ _ _)).tr (rF.s _ _ _)).tr (rF.i _ _ _ (by decide))).tr (rF.i _ _ _ (by decide))⟩
end RM
section KC
variable {scr : Nat × (Nat → Int32)} {t : List mg_S} {G : mg_G} {S : a_S}
theorem c106 (d : Nat) (hT : cT G S) : mg_m (mg_KC scr t) (d + 203) 106 [.ref 0] G (cAp G (ex1 xA) (p245 S)) := by
  have hN := hT.2.2.2.2.1
  have hl6 := hN.2.1
  unfold p245 cAp
  obtain ⟨r, hr⟩ : ∃ r, r = tY (sIn S) := ⟨_, rfl⟩
  rw [← hr]
  refine mg_me [] 90 my_106 ms_106 (Nat.le_of_ble_eq_true rfl) ?_
  repeat (first | refine ⟨_, mg_Fs rfl rfl, ?_⟩ | refine ⟨Or.inl rfl, ?_⟩ | refine ⟨Or.inr ⟨_, rfl⟩, ?_⟩ | refine ⟨fun _ => ?_, fun h => absurd h (by decide)⟩ | refine ⟨fun h => absurd h (by decide), fun _ => ?_⟩)
  refine mg_m_mono (c36 d hN hr) (by omega) ?_
  rintro o q G1 w
  rcases r with e9 | x
  · obtain ⟨rfl, rfl, f1, h6, h7⟩ := w
    have f2 : mg_fr (fun a => a = 1 ∨ (3 ≤ a ∧ a ≤ 29)) G (mg_sF G1 1 1 (.int 0)) := (f1.mono (fun a ha => Or.inr ha)).tr (mg_fr.sF _ _ _ (Or.inl rfl))
    have hT2 := hT.rd f2 (cIn.n0 (mg_sF_at _ _ _ _)) (c := e9.1) (q := Int32.ofNat e9.2) ((mg_sF_ne _ _ (by decide)).trans h6) ((mg_sF_ne _ _ (by decide)).trans h7)
    repeat (first | refine ⟨_, mg_Fs rfl rfl, ?_⟩ | refine ⟨Or.inl rfl, ?_⟩ | refine ⟨Or.inr ⟨_, rfl⟩, ?_⟩ | refine ⟨fun _ => ?_, fun h => absurd h (by decide)⟩ | refine ⟨fun h => absurd h (by decide), fun _ => ?_⟩)
    refine ⟨rfl, _, rfl, rfl, fun q => absurd rfl q, fun _ => ?_⟩
    exact ⟨Nat.le_of_ble_eq_true rfl, Or.inr ⟨show (1 : Int32) ≠ 0 by decide, rfl⟩, show 1 + 1 ≤ 2 by decide, hT2, f2.mono (fun a ha => by show a < 148; omega)⟩
  · obtain ⟨A', m⟩ := x
    obtain ⟨rfl, rfl, f1, hS1, hW1, h6, h7⟩ := w
    have f2 : mg_fr (fun a => a = 1 ∨ (3 ≤ a ∧ a ≤ 29)) G (mg_sF G1 1 1 (.int 0)) := (f1.mono (fun a ha => Or.inr ha)).tr (mg_fr.sF _ _ _ (Or.inl rfl))
    have hT2 := hT.rd f2 (cIn.n0 (mg_sF_at _ _ _ _)) (c := 0) (q := Int32.ofInt (-1)) ((mg_sF_ne _ _ (by decide)).trans h6) ((mg_sF_ne _ _ (by decide)).trans h7)
    have hS2 : cS (mg_sF G1 1 1 (.int 0)) 4 A' := hS1.fr (mg_fr.sF (p := fun a => a = 1) G1 1 (.int 0) rfl) (fun a ha => by unfold kQ at ha; omega)
    repeat (first | refine ⟨_, mg_Fs rfl rfl, ?_⟩ | refine ⟨Or.inl rfl, ?_⟩ | refine ⟨Or.inr ⟨_, rfl⟩, ?_⟩ | refine ⟨fun _ => ?_, fun h => absurd h (by decide)⟩ | refine ⟨fun h => absurd h (by decide), fun _ => ?_⟩)
    refine ⟨rfl, _, rfl, rfl, fun _ => ?_, fun q => absurd q (by decide)⟩
    repeat (first | refine ⟨_, mg_Fs rfl rfl, ?_⟩ | refine ⟨Or.inl rfl, ?_⟩ | refine ⟨Or.inr ⟨_, rfl⟩, ?_⟩ | refine ⟨fun _ => ?_, fun h => absurd h (by decide)⟩ | refine ⟨fun h => absurd h (by decide), fun _ => ?_⟩)
    refine mg_m_mono (c28 d hT2.2.2.1) (by omega) ?_
    rintro o q G3 ⟨rfl, rfl, hU3, f3⟩
    repeat (first | refine ⟨_, mg_Fs rfl rfl, ?_⟩ | refine ⟨Or.inl rfl, ?_⟩ | refine ⟨Or.inr ⟨_, rfl⟩, ?_⟩ | refine ⟨fun _ => ?_, fun h => absurd h (by decide)⟩ | refine ⟨fun h => absurd h (by decide), fun _ => ?_⟩)
    refine mg_m_mono (c29 d) (by omega) ?_
    rintro o q G4 ⟨rfl, rfl, v0, v1, f4⟩
    have hS4 : cS G4 4 A' := (hS2.fr f3 (fun a ha => by unfold kQ at ha; omega)).fr f4 (fun a ha => by unfold kQ at ha; omega)
    repeat (first | refine ⟨_, mg_Fs rfl rfl, ?_⟩ | refine ⟨Or.inl rfl, ?_⟩ | refine ⟨Or.inr ⟨_, rfl⟩, ?_⟩ | refine ⟨fun _ => ?_, fun h => absurd h (by decide)⟩ | refine ⟨fun h => absurd h (by decide), fun _ => ?_⟩)
    refine mg_m_mono (c164 d kc_s2 (Or.inr (by decide)) hS4 hW1) (by omega) ?_
    rintro o q G5 ⟨rfl, rfl, hS5, h0, f5⟩
    have f6 : mg_fr (fun a => a = 0 ∨ kQ 30 a ∨ a = 38 ∨ a = 41) (mg_sF G1 1 1 (.int 0)) G5 := ((f3.mono (fun a ha => Or.inr (Or.inr (Or.inl ha)))).tr (f4.mono (fun a ha => Or.inr (Or.inr (Or.inr ha))))).tr (f5.mono (fun a ha => ha.elim Or.inl (fun z => Or.inr (Or.inl z))))
    have hV5 : cSv G5 (fun _ => none) := by
      refine ⟨fun s hs => (congrFun (f6 40 (by unfold kQ; omega)).2.2.2.1 s).trans (hT2.2.2.2.1.1 s hs), fun s hs => ⟨?_, fun B hB => nomatch hB⟩⟩
      refine (congrFun (f5 41 (by unfold kQ; omega)).1 s).trans ?_
      rcases (show s = 0 ∨ s = 1 by omega) with rfl | rfl
      · exact v0
      · exact v1
    have e3 := (f6 3 (by unfold kQ; omega)).2.2.2.2
    have hT5 : cT G5 (A', [], fun _ => none, [], 0, Int32.ofInt (-1), sW S) := ⟨hS5, hW1, (hU3.fr2 f4 (fun a ha => by omega)).fr f5 (fun a ha => by unfold kQ; omega), hV5, hT2.2.2.2.2.1.fr f6 (by unfold kQ; omega) (by unfold kQ; omega), ⟨(congrFun e3 6).trans hT2.2.2.2.2.2.1.1, (congrFun e3 7).trans hT2.2.2.2.2.2.1.2⟩, hT2.2.2.2.2.2.2.1.fr f6 (by unfold kQ; omega) (by unfold kQ; omega), Or.inl h0⟩
    repeat (first | refine ⟨_, mg_Fs rfl rfl, ?_⟩ | refine ⟨Or.inl rfl, ?_⟩ | refine ⟨Or.inr ⟨_, rfl⟩, ?_⟩ | refine ⟨fun _ => ?_, fun h => absurd h (by decide)⟩ | refine ⟨fun h => absurd h (by decide), fun _ => ?_⟩)
    refine ⟨_, mg_Fe hS5.2.1 rfl rfl, Or.inl rfl, ?_⟩
    exact cA_v hT5 ((f2.mono (fun a ha => by show a < 148; omega)).tr (f6.mono (fun a ha => by unfold kQ at ha; show a < 148; omega))) rfl
end KC
