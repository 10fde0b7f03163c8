/-! SCRIPTS, on both sides -/
def p253 (S : a_S) : a_S × qR := match tL true (sIn S) 601 (sA S) 0 0 with
  | .inl e => ((sA S, sU S, sV S, [], e.1, Int32.ofNat e.2, sW S), (1, 0))
  | .inr x => ((x.1, a_push (sU S) (sA S), sV S, [], 0, Int32.ofInt (-1), sW S), (0, Int32.ofNat x.2))
theorem tL_le {sc : Bool} {l : List Nat} : ∀ n (A : a_A) many p A' m, tL sc l n A many p = .inr (A', m) → m ≤ many + n := by
  intro n
  induction n with
  | zero => exact fun A many p A' m h => by cases h
  | succ n ih =>
    intro A many p A' m h
    by_cases h0 : k_K l p = 0
    · rw [tL_0 h0] at h
      cases h
      omega
    · rw [tL_s h0] at h
      cases e : tO sc A l many p with
      | inl e9 =>
        rw [e] at h
        cases h
      | inr x =>
        rw [e] at h
        have := ih _ _ _ _ _ h
        omega
theorem tF.F {G G' : mg_G} (h : tF G G') : rF G G' := fun b hb => ⟨h.1 b (by omega) (by omega), h.2.1 b (by omega) (by omega), congrFun h.2.2.2.2.1 b, congrFun h.2.2.2.2.2.1 b, funext fun k => h.2.2.2.2.2.2 b k (by omega)⟩
theorem bS.t {G G' : mg_G} {c : Nat} {B : a_A} (h : bS G c B) (h0 : tF G G') (hc : 1 ≤ c) : bS G' c B :=
  ⟨h.1.tr h.2 (fun j _ => h0.2.2.1 _ (by omega)) (fun j _ => h0.2.2.2.1 _ (by omega)), h.2⟩
/-- what stands beside block 0: what can be undone, what is saved, what was written -/
def rB9 (G : mg_G) (U : List a_A) (V : Nat → Option a_A) (w : List Nat) : Prop := (∀ v, v < 6 → G.2.1 154 v = a_m v) ∧ rUn G U ∧ rSv G V ∧ rWr G w
section RB
variable {G G' : mg_G} {U : List a_A} {V : Nat → Option a_A} {w : List Nat}
theorem rT.B9 {S : a_S} (h : rT G S) : rB9 G (sU S) (sV S) (sW S) := ⟨h.1, h.2.2.1, h.2.2.2.1, h.2.2.2.2.2.2⟩
theorem rB9.t (h : rB9 G U V w) (f : tF G G') : rB9 G' U V w := by
  obtain ⟨h1, h3, h4, h8⟩ := h
  obtain ⟨z1, z2, z3, z4, z5, z6, z7⟩ := id f
  exact ⟨fun v hv => by rw [z2 154 (by decide) (by decide)]; exact h1 v hv, ⟨(z7 148 3 (by decide)).trans h3.1, h3.2.1, fun i B hi => (h3.2.2 i B hi).t f (by omega)⟩, fun s hs => ⟨by rw [z1 151 (by decide) (by decide)]; exact (h4 s hs).1, fun B hB => ((h4 s hs).2 B hB).t f (by omega)⟩, ⟨(z7 148 9 (by decide)).trans h8.1, h8.2.1, fun i c hi => by rw [z1 153 (by decide) (by decide)]; exact h8.2.2 i c hi⟩⟩
theorem rB9.s (h : rB9 G U V w) (k : Nat) (v : Value) (h3 : k ≠ 3) (h9 : k ≠ 9) : rB9 (mg_sF G 148 k v) U V w :=
  ⟨h.1, ⟨(mg_sF_ne _ _ (by omega)).trans h.2.1.1, h.2.1.2.1, fun i B hi => (h.2.1.2.2 i B hi).sF _ _ _⟩, fun s hs => ⟨(h.2.2.1 s hs).1, fun B hB => ((h.2.2.1 s hs).2 B hB).sF _ _ _⟩, ⟨(mg_sF_ne _ _ (by omega)).trans h.2.2.2.1, h.2.2.2.2.1, h.2.2.2.2.2⟩⟩
theorem rB9.cp (h : rB9 G U V w) {a b : Nat} (hb : b = 0 ∨ b = 11) : rB9 (cpm G a b) U V w := by
  obtain ⟨h1, h3, h4, h8⟩ := h
  obtain ⟨y1, y2, y3, y4, y5⟩ := rY.cp G a b
  refine ⟨fun v hv => by rw [y2 154 (by decide)]; exact h1 v hv, ⟨h3.1, h3.2.1, fun i B hi => (h3.2.2 i B hi).ot (by have := (List.getElem?_eq_some_iff.mp hi).1; have := h3.2.1; omega)⟩, fun s hs => ⟨by rw [y1 151 (by decide)]; exact (h4 s hs).1, fun B hB => ((h4 s hs).2 B hB).ot (by omega)⟩, ⟨h8.1, h8.2.1, fun i c hi => by rw [y1 153 (by decide)]; exact h8.2.2 i c hi⟩⟩
theorem rB9.T (h : rB9 G U V w) {A : a_A} (hA : bS G 0 A) {l : List Nat} (hN : rIn G l) {c q : Int32} (h6 : G.2.2.2.2 148 6 = .int c) (h7 : G.2.2.2.2 148 7 = .int q) : rT G (A, U, V, l, c, q, w) := ⟨h.1, hA, h.2.1, h.2.2.1, hN, ⟨h6, h7⟩, h.2.2.2⟩
theorem rIn.n0 (h5 : G.2.2.2.2 148 5 = .int (Int32.ofNat 0)) : rIn G [] := ⟨h5, by decide, fun i c h => absurd h (by simp)⟩
end RB
section RM
variable {scr : Nat × (Nat → Int32)} {t : List mg_S} {G : mg_G} {S : a_S}
theorem r253 (d : Nat) (hT : rT G S) : mg_m (mg_KM scr t) (d + 803) 253 [.ref 148] G (rAp G (p253 S)) := by
  have hN := hT.2.2.2.2.1
  have hl6 := hN.2.1
  have hW := hT.I.W
  have hB1 := hT.B9.cp (a := 0) (b := 11) (Or.inr rfl)
  have h11 : bS (cpm G 0 11) 11 (sA S) := hT.2.1.to
  have h01 : bS (cpm G 0 11) 0 (sA S) := hT.2.1.ot (by decide)
  have hN1 : rIn (cpm G 0 11) (sIn S) := ⟨hN.1, hN.2.1, fun i c hi => by rw [(rY.cp G 0 11).1 152 (by decide)]; exact hN.2.2 i c hi⟩
  unfold p253 rAp
  refine mg_me [] 90 my_253 ms_253 (Nat.le_of_ble_eq_true rfl) ?_
  repeat (first | refine ⟨_, mg_Fs rfl rfl, ?_⟩ | refine ⟨_, mg_Fd rfl rfl, ?_⟩ | refine ⟨Or.inl rfl, ?_⟩ | refine ⟨Or.inr ⟨_, rfl⟩, ?_⟩ | refine ⟨fun _ => ?_, fun h => absurd h (by decide)⟩ | refine ⟨fun h => absurd h (by decide), fun _ => ?_⟩)
  refine mg_cn (r184m d 0 11 (by decide) (by decide)) (by omega) ?_
  repeat (first | refine ⟨_, mg_Fs rfl rfl, ?_⟩ | refine ⟨Or.inl rfl, ?_⟩ | refine ⟨Or.inr ⟨_, rfl⟩, ?_⟩ | refine ⟨fun _ => ?_, fun h => absurd h (by decide)⟩ | refine ⟨fun h => absurd h (by decide), fun _ => ?_⟩)
  refine mg_m_mono (r211 d hN1) (by omega) ?_
  rintro o q G2 ⟨rfl, rfl, f2, hN2, hk2, h62, h72, e1, e2⟩
  have hM : tM G2 G2 (sA S) (sIn S) 0 := tI.M ⟨⟨(hB1.t f2).1, h01.1.c (congrFun e1 149) (congrFun e2 150), hW⟩, hN2, hk2⟩
  repeat (first | refine ⟨_, mg_Fs rfl rfl, ?_⟩ | refine ⟨Or.inl rfl, ?_⟩ | refine ⟨Or.inr ⟨_, rfl⟩, ?_⟩ | refine ⟨fun _ => ?_, fun h => absurd h (by decide)⟩ | refine ⟨fun h => absurd h (by decide), fun _ => ?_⟩)
  refine mg_m_mono (r252 d hM (n := 601) (by omega)) (by omega) ?_
  rintro o q G3 w
  rcases e : tL true (sIn S) 601 (sA S) 0 0 with e9 | x
  · rw [e] at w
    obtain ⟨rfl, f3, rfl, h6, h7⟩ := w
    have f4 := f2.tr f3
    have hB4 := ((hB1.t f4).s 5 (.int 0) (by decide) (by decide)).cp (a := 11) (b := 0) (Or.inl rfl)
    have h05 : bS (cpm (mg_sF G3 148 5 (.int 0)) 11 0) 0 (sA S) := ((h11.t f4 (by decide)).sF 148 5 (.int 0)).to
    have hT5 := ((hB4.s 10 (.int 1) (by decide) (by decide)).T (h05.sF 148 10 (.int 1)) (l := []) (rIn.n0 ((mg_sF_ne _ _ (by decide)).trans (mg_sF_at _ _ _ _))) (c := e9.1) (q := Int32.ofNat e9.2) ((mg_sF_ne _ _ (by decide)).trans ((mg_sF_ne _ _ (by decide)).trans h6)) ((mg_sF_ne _ _ (by decide)).trans ((mg_sF_ne _ _ (by decide)).trans h7)))
    repeat (first | refine ⟨_, mg_Fs rfl rfl, ?_⟩ | refine ⟨Or.inl rfl, ?_⟩ | refine ⟨Or.inr ⟨_, rfl⟩, ?_⟩ | refine ⟨fun _ => ?_, fun h => absurd h (by decide)⟩ | refine ⟨fun h => absurd h (by decide), fun _ => ?_⟩)
    refine ⟨rfl, _, rfl, rfl, fun q => absurd rfl q, fun _ => ?_⟩
    repeat (first | refine ⟨_, mg_Fs rfl rfl, ?_⟩ | refine ⟨_, mg_Fd rfl rfl, ?_⟩ | refine ⟨Or.inl rfl, ?_⟩ | refine ⟨Or.inr ⟨_, rfl⟩, ?_⟩ | refine ⟨fun _ => ?_, fun h => absurd h (by decide)⟩ | refine ⟨fun h => absurd h (by decide), fun _ => ?_⟩)
    refine mg_cn (r184m d 11 0 (by decide) (by decide)) (by omega) ?_
    refine ⟨fun q => absurd rfl q, fun _ => ?_⟩
    repeat (first | refine ⟨_, mg_Fs rfl rfl, ?_⟩ | refine ⟨Or.inl rfl, ?_⟩ | refine ⟨Or.inr ⟨_, rfl⟩, ?_⟩ | refine ⟨fun _ => ?_, fun h => absurd h (by decide)⟩ | refine ⟨fun h => absurd h (by decide), fun _ => ?_⟩)
    refine mg_cv (r176_1 d _ _) (by omega) ?_
    refine ⟨fun q => absurd q (by decide), fun _ => ?_⟩
    exact ⟨Or.inl rfl, rfl, rfl, mg_sF_at _ _ _ _, hT5, ((((rY.cp G 0 11).F.tr f4.F).tr (rF.s _ _ _)).tr (rY.cp _ 11 0).F).tr (rF.s _ _ _)⟩
  · obtain ⟨A', m⟩ := x
    have hm := tL_le _ _ _ _ _ _ e
    rw [e] at w
    obtain ⟨rfl, f3, rfl, hI3, h6, h7⟩ := w
    have f4 := f2.tr f3
    have hB5 := ((hB1.t f4).s 5 (.int 0) (by decide) (by decide)).s 10 (.int 0) (by decide) (by decide)
    have h11' : bS (mg_sF (mg_sF G3 148 5 (.int 0)) 148 10 (.int 0)) 11 (sA S) := ((h11.t f4 (by decide)).sF 148 5 (.int 0)).sF 148 10 (.int 0)
    have hT5 : rT (mg_sF (mg_sF G3 148 5 (.int 0)) 148 10 (.int 0)) (A', sU S, sV S, [], 0, Int32.ofInt (-1), sW S) := hB5.T ((hI3.b.sF 148 5 (.int 0)).sF 148 10 (.int 0)) (rIn.n0 ((mg_sF_ne _ _ (by decide)).trans (mg_sF_at _ _ _ _))) ((mg_sF_ne _ _ (by decide)).trans ((mg_sF_ne _ _ (by decide)).trans (h6.trans h62))) ((mg_sF_ne _ _ (by decide)).trans ((mg_sF_ne _ _ (by decide)).trans (h7.trans h72)))
    repeat (first | refine ⟨_, mg_Fs rfl rfl, ?_⟩ | refine ⟨Or.inl rfl, ?_⟩ | refine ⟨Or.inr ⟨_, rfl⟩, ?_⟩ | refine ⟨fun _ => ?_, fun h => absurd h (by decide)⟩ | refine ⟨fun h => absurd h (by decide), fun _ => ?_⟩)
    refine ⟨rfl, _, rfl, rfl, fun _ => ?_, fun q => absurd q (mg_n1 (by omega))⟩
    refine ⟨fun _ => ?_, fun q => absurd q (mg_n1 (by omega))⟩
    repeat (first | refine ⟨_, mg_Fs rfl rfl, ?_⟩ | refine ⟨Or.inl rfl, ?_⟩ | refine ⟨Or.inr ⟨_, rfl⟩, ?_⟩ | refine ⟨fun _ => ?_, fun h => absurd h (by decide)⟩ | refine ⟨fun h => absurd h (by decide), fun _ => ?_⟩)
    refine mg_cv (r176_0 d) (by omega) ?_
    refine ⟨fun _ => ?_, fun q => absurd rfl q⟩
    repeat (first | refine ⟨_, mg_Fs rfl rfl, ?_⟩ | refine ⟨Or.inl rfl, ?_⟩ | refine ⟨Or.inr ⟨_, rfl⟩, ?_⟩ | refine ⟨fun _ => ?_, fun h => absurd h (by decide)⟩ | refine ⟨fun h => absurd h (by decide), fun _ => ?_⟩)
    refine mg_m_mono (r185 d 11 (Or.inr (by decide)) (by decide) hT5.2.2.1 h11') (by omega) ?_
    rintro o q G6 ⟨rfl, rfl, hU, hY, hb⟩
    exact ⟨Or.inl rfl, rfl, rfl, (hY.2.2.2.2 148 10 (by decide)).trans (mg_sF_at _ _ _ _), hT5.rem hU hY hb, ((((rY.cp G 0 11).F.tr f4.F).tr (rF.s _ _ _)).tr (rF.s _ _ _)).tr hY.F⟩
end RM
section KC
variable {scr : Nat × (Nat → Int32)} {t : List mg_S} {G : mg_G} {S : a_S}
/-- behind a reading: the input, the error -/
theorem cT.rd {G' : mg_G} (h : cT G S) (f : mg_fr (fun a => a = 1 ∨ (3 ≤ a ∧ a ≤ 29)) G G') {l : List Nat} (h1 : cIn G' l) {c q : Int32} (h6 : G'.2.2.2.2 3 6 = .int c) (h7 : G'.2.2.2.2 3 7 = .int q) : cT G' (sA S, sU S, sV S, l, c, q, sW S) := by
  obtain ⟨g1, g2, g3, g4, g5, g6, g7, g8⟩ := h
  exact ⟨g1.fr f (fun a ha => by unfold kQ at ha; omega), g2, g3.fr f (fun a ha => by omega), g4.fr f (fun a ha => by omega), h1, ⟨h6, h7⟩, g7.fr f (by decide) (by decide), g8.fr f (by decide) (fun a ha => by unfold kG at ha; omega)⟩
theorem cIn.n0 (h5 : G.2.2.2.2 1 1 = .int (Int32.ofNat 0)) : cIn G [] := ⟨h5, by decide, fun i c h => absurd h (by simp)⟩
theorem c163f (d : Nat) {U : List a_A} {A : a_A} (hU : cUn G U) (hS : cS G 30 A) (hW : aW A) : mg_m (mg_KC scr t) (d + 3) 163 [.ref 0] G (fun o q G' => o = .inl none ∧ q = 0 ∧ cUn G' (a_push U A) ∧ G'.2.2.2.2 0 7 = .int 0 ∧ mg_fr (fun a => a = 0 ∨ a = 38 ∨ (42 ≤ a ∧ a < 106)) G G') := by
  refine mg_me [] 60 my_163 ms_163 (Nat.le_of_ble_eq_true rfl) ?_
  repeat (first | refine ⟨_, mg_Fs rfl rfl, ?_⟩ | refine ⟨Or.inl rfl, ?_⟩ | refine ⟨Or.inr ⟨_, rfl⟩, ?_⟩ | refine ⟨fun _ => ?_, fun h => absurd h (by decide)⟩ | refine ⟨fun h => absurd h (by decide), fun _ => ?_⟩)
  refine mg_m_mono (c26 d hU hS hW) (by omega) ?_
  rintro o q G1 ⟨rfl, rfl, hU1, f1⟩
  have f2 : mg_fr (fun a => a = 0) G1 (mg_sF G1 0 7 (.int 0)) := mg_fr.sF _ _ _ rfl
  refine ⟨rfl, _, rfl, rfl, ?_⟩
  exact ⟨rfl, rfl, hU1.fr f2 (fun a ha => by omega), mg_sF_at _ _ _ _, (f1.mono (fun a ha => Or.inr ha)).tr (f2.mono (fun a ha => Or.inl ha))⟩
theorem c149 (d : Nat) (hT : cT G S) : mg_m (mg_KC scr t) (d + 203) 149 [.ref 0] G (cAp G (ex1 xA) (p253 S)) := by
  have hN := hT.2.2.2.2.1
  have hl6 := hN.2.1
  unfold p253 cAp
  refine mg_me [] 90 my_149 ms_149 (Nat.le_of_ble_eq_true rfl) ?_
  repeat (first | refine ⟨_, mg_Fs rfl rfl, ?_⟩ | refine ⟨Or.inl rfl, ?_⟩ | refine ⟨Or.inr ⟨_, rfl⟩, ?_⟩ | refine ⟨fun _ => ?_, fun h => absurd h (by decide)⟩ | refine ⟨fun h => absurd h (by decide), fun _ => ?_⟩)
  refine mg_m_mono (c37 d hT.1 hT.2.1 hN (n := 601) (by omega)) (by omega) ?_
  rintro o q G1 w
  rcases e : tL true (sIn S) 601 (sA S) 0 0 with e9 | x
  · rw [e] at w
    obtain ⟨rfl, rfl, f1, h6, h7⟩ := w
    have f2 : mg_fr (fun a => a = 1 ∨ (3 ≤ a ∧ a ≤ 29)) G (mg_sF G1 1 1 (.int 0)) := (f1.mono (fun a ha => Or.inr ha)).tr (mg_fr.sF _ _ _ (Or.inl rfl))
    have hT2 := hT.rd f2 (cIn.n0 (mg_sF_at _ _ _ _)) (c := e9.1) (q := Int32.ofNat e9.2) ((mg_sF_ne _ _ (by decide)).trans h6) ((mg_sF_ne _ _ (by decide)).trans h7)
    repeat (first | refine ⟨_, mg_Fs rfl rfl, ?_⟩ | refine ⟨Or.inl rfl, ?_⟩ | refine ⟨Or.inr ⟨_, rfl⟩, ?_⟩ | refine ⟨fun _ => ?_, fun h => absurd h (by decide)⟩ | refine ⟨fun h => absurd h (by decide), fun _ => ?_⟩)
    refine ⟨rfl, _, rfl, rfl, fun q => absurd rfl q, fun _ => ?_⟩
    exact ⟨Nat.le_of_ble_eq_true rfl, Or.inr ⟨show (1 : Int32) ≠ 0 by decide, rfl⟩, show 1 + 1 ≤ 2 by decide, hT2, f2.mono (fun a ha => by show a < 148; omega)⟩
  · obtain ⟨A', m⟩ := x
    have hm := tL_le _ _ _ _ _ _ e
    rw [e] at w
    obtain ⟨rfl, rfl, f1, hS1, hW1, h6, h7⟩ := w
    have f2 : mg_fr (fun a => a = 1 ∨ (3 ≤ a ∧ a ≤ 29)) G (mg_sF G1 1 1 (.int 0)) := (f1.mono (fun a ha => Or.inr ha)).tr (mg_fr.sF _ _ _ (Or.inl rfl))
    have hT2 := hT.rd f2 (cIn.n0 (mg_sF_at _ _ _ _)) (c := 0) (q := Int32.ofInt (-1)) ((mg_sF_ne _ _ (by decide)).trans h6) ((mg_sF_ne _ _ (by decide)).trans h7)
    have hS2 : cS (mg_sF G1 1 1 (.int 0)) 4 A' := hS1.fr (mg_fr.sF (p := fun a => a = 1) G1 1 (.int 0) rfl) (fun a ha => by unfold kQ at ha; omega)
    repeat (first | refine ⟨_, mg_Fs rfl rfl, ?_⟩ | refine ⟨Or.inl rfl, ?_⟩ | refine ⟨Or.inr ⟨_, rfl⟩, ?_⟩ | refine ⟨fun _ => ?_, fun h => absurd h (by decide)⟩ | refine ⟨fun h => absurd h (by decide), fun _ => ?_⟩)
    refine ⟨rfl, _, rfl, rfl, fun _ => ?_, fun q => absurd q (mg_n1 (by omega))⟩
    repeat (first | refine ⟨_, mg_Fs rfl rfl, ?_⟩ | refine ⟨Or.inl rfl, ?_⟩ | refine ⟨Or.inr ⟨_, rfl⟩, ?_⟩ | refine ⟨fun _ => ?_, fun h => absurd h (by decide)⟩ | refine ⟨fun h => absurd h (by decide), fun _ => ?_⟩)
    refine mg_m_mono (c163f d hT2.2.2.1 hT2.1 hT2.2.1) (by omega) ?_
    rintro o q G3 ⟨rfl, rfl, hU3, h0, f3⟩
    have hS3 := hS2.fr f3 (fun a ha => by unfold kQ at ha; omega)
    repeat (first | refine ⟨_, mg_Fs rfl rfl, ?_⟩ | refine ⟨Or.inl rfl, ?_⟩ | refine ⟨Or.inr ⟨_, rfl⟩, ?_⟩ | refine ⟨fun _ => ?_, fun h => absurd h (by decide)⟩ | refine ⟨fun h => absurd h (by decide), fun _ => ?_⟩)
    refine mg_m_mono (c64A d kc_s1 kc_s2 (Or.inr (by decide)) hS3 hW1) (by omega) ?_
    rintro o q G4 ⟨rfl, rfl, hS4, f4⟩
    have f5 : mg_fr (fun a => (a = 0 ∨ a = 38 ∨ (42 ≤ a ∧ a < 106)) ∨ kQ 30 a) (mg_sF G1 1 1 (.int 0)) G4 := (f3.mono (fun a ha => Or.inl ha)).tr (f4.mono (fun a ha => Or.inr ha))
    have hT4 := hT2.st f5 (fun a ha => by unfold kQ at ha; omega) ⟨by unfold kQ; omega, by unfold kQ; omega, by unfold kQ; omega⟩ hS4 hW1 (hU3.fr f4 (fun a ha => by unfold kQ; omega)) ((congrFun (f4 0 (by unfold kQ; omega)).2.2.2.2 7).trans h0)
    exact ⟨Or.inl rfl, cA_v hT4 ((f2.mono (fun a ha => by show a < 148; omega)).tr (f5.mono (fun a ha => by unfold kQ at ha; show a < 148; omega))) rfl⟩
end KC
