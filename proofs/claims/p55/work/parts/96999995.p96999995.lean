section KC
variable {scr : Nat × (Nat → Int32)} {t : List mg_S} {G G0 : mg_G} {A : a_A} {l : List Nat} {p : Nat}
theorem c42S (d : Nat) {k : Nat} {G2 : mg_G} {A' : a_A} {q : Nat} {r : sR} (hr : r = tE l (tC A l p k)) (hW : aW A) (hl6 : l.length ≤ 600) (hp : p ≤ l.length) (hkd : k_kd l p = some k) (e : tC A l p k = .inr (A', q)) (hM2 : sM G0 G2 A' l q) (e1 e2 e3 e4 e5 e6 e7 : Option Value) : mg_wp (mg_KC scr t) mc_42 (d + 200) 376 [some (.ref 3), e1, e2, e3, e4, e5, e6, e7] [] G2 (cD G0 l r) := by
  have hq := (tC_ok hW hl6 hp hkd e).2.2
  rw [hr, e]
  exact c42e (d + 197) hM2 hq _ _ _ _ _ _ _
theorem c42E {k : Nat} {G2 : mg_G} {e : zEr} {r : sR} (hr : r = tE l (tC A l p k)) (h : tC A l p k = .inl e) (w : cD G0 l (.inl e) (.inr xA) 1 G2) : cD G0 l r (.inr xA) 1 G2 := by
  rw [hr, h]
  exact w
/-- a function's definition, behind its name -/
def tFn (A : a_A) (w : List Nat) (y : zEr ⊕ (a_T × Nat)) : sR := match y with
  | .inr x => .inr (addF A w x.1, x.2)
  | .inl e => .inl e
theorem tNew_y {A : a_A} {l : List Nat} {p : Nat} {y : zEr ⊕ (a_T × Nat)} (b1 : k_nm l p = true) (b2 : t_nw A l p = true) (hy : zP A l 9700 0 none 0 (k_E l p) = some y) : tNew A l p = tFn A (k_W l p) y := by
  unfold tNew
  refine (if_pos b1).trans ((if_pos b2).trans ?_)
  generalize zP A l 9700 0 none 0 (k_E l p) = z at hy
  subst hy
  cases y <;> rfl
theorem c42n (d : Nat) (hp : p ≤ l.length) (hkd : k_kd l p = some 0) (h12 : aF A ≠ 12) (hM1 : sM G0 G A l (k_E l (k_E l p))) (hI1 : yI G A l (k_E l (k_E l p)) 0) (b1 : k_nm l (k_E l p) = true) (b2 : t_nw A l (k_E l p) = true) (e1 e2 e3 e4 : Option Value) {r : sR} (hr : r = tE l (tC A l p 0)) : mg_wp (mg_KC scr t) mc_42 (d + 200) 167 [some (.ref 3), e1, e2, e3, e4, some (.long (a_pk (k_W l (k_E l p)))), none, none] [] G (cD G0 l r) := by
  obtain ⟨hS, hW, hN, hB, hk, h5⟩ := id hM1.2.1
  have h8 : aV A ≤ 8 := hW.2.1.2.2.2
  have hf12 := hW.2.2.1
  obtain ⟨hn, -⟩ := a_wds_i (aV A) h8
  have h4 : a_wds (aV A) ≤ 4 := by omega
  have hl6 := hN.2.1
  have hE := k_E_le hp
  have hEE := k_E_le hE
  have hwn := (k_W_nm hE (k_nm_1 b1)).1
  obtain ⟨y, hy⟩ := zP_97 hW hl6 hEE
  have e0 : tC A l p 0 = tFn A (k_W l (k_E l p)) y := (tC_0 A l p).trans ((if_neg h12).trans (tNew_y b1 b2 hy))
  have kf : mg_m (mg_KC scr t) (d + 8 * (20 - 0) + (7 - 0) + 12) 50 [.ref 3, .int (Int32.ofNat 0), .int (Int32.ofNat 0), .int (Int32.ofNat 0)] G (yQ G A l 0 0 y) := (yF_all hW 9700).1 0 0 0 _ 0 y G (by decide) (by decide) hEE (by decide) (Nat.zero_le _) hI1 hy d
  cases y with
  | inl e =>
    refine mg_go [376] 60 167 ms_42 ?_
    repeat (first | refine ⟨_, mg_Fs rfl rfl, ?_⟩ | refine ⟨Or.inl rfl, ?_⟩ | refine ⟨Or.inr ⟨_, rfl⟩, ?_⟩ | refine ⟨fun _ => ?_, fun h => absurd h (by decide)⟩ | refine ⟨fun h => absurd h (by decide), fun _ => ?_⟩)
    refine mg_m_mono (kf) (by omega) ?_
    rintro o q G2 ⟨rfl, rfl, w1, w2, w3⟩
    exact c42E (A := A) (l := l) (p := p) (k := 0) hr e0 ⟨rfl, rfl, hM1.1.tr w1.g, w2, w3⟩
  | inr x =>
    obtain ⟨T, q9⟩ := x
    obtain ⟨m1, m2, m3, m4⟩ := zP_okn hW hEE hy
    refine mg_go [376] 60 167 ms_42 ?_
    repeat (first | refine ⟨_, mg_Fs rfl rfl, ?_⟩ | refine ⟨Or.inl rfl, ?_⟩ | refine ⟨Or.inr ⟨_, rfl⟩, ?_⟩ | refine ⟨fun _ => ?_, fun h => absurd h (by decide)⟩ | refine ⟨fun h => absurd h (by decide), fun _ => ?_⟩)
    refine mg_m_mono (kf) (by omega) ?_
    rintro o q G2 ⟨rfl, rfl, w1, w2, w3, w4, w5, w6, w7, w8, w9⟩
    have hS2 := hM1.2.1.1.fr w1 (fun a ha => by unfold kQ at ha; omega)
    have hM2 : sM G0 G2 A l q9 := ⟨hM1.1.tr w1.g, ⟨hS2, hW, hM1.2.1.2.2.1.fr w1 (by decide) (by decide), w2, w3, w4⟩, w5.trans hM1.2.2.1, w6.trans hM1.2.2.2⟩
    have hS3 := hS2.wf hW (r := aF A) (n := a_wds (aV A)) (g := fun w => G2.2.1 28 (4 * 0 + w)) (Nat.le_refl _)
    repeat (first | refine ⟨_, mg_Fs rfl rfl, ?_⟩ | refine ⟨Or.inl rfl, ?_⟩ | refine ⟨Or.inr ⟨_, rfl⟩, ?_⟩ | refine ⟨fun _ => ?_, fun h => absurd h (by decide)⟩ | refine ⟨fun h => absurd h (by decide), fun _ => ?_⟩)
    refine ⟨_, mg_Fe hS2.2.1 rfl rfl, ?_⟩
    repeat (first | refine ⟨_, mg_Fs rfl rfl, ?_⟩ | refine ⟨Or.inl rfl, ?_⟩ | refine ⟨Or.inr ⟨_, rfl⟩, ?_⟩ | refine ⟨fun _ => ?_, fun h => absurd h (by decide)⟩ | refine ⟨fun h => absurd h (by decide), fun _ => ?_⟩)
    refine mg_cn (c81 (K := mg_KC scr t) (G := G2) (a := 5) (b := 6) (N := 56) d (aF A) 0 27 28 600 kc_s2.T kc_t3 hS2.1 h4 (by omega) (by omega)) (by omega) ?_
    have hT3 : cRow (cW G2 6 (aF A) (a_wds (aV A)) (fun w => G2.2.1 28 (4 * 0 + w))) 6 (aF A) (a_wds (aV A)) T := fun w hw => (cW_in _ _ _ _ _ _ hw).trans (w7 w hw)
    repeat (first | refine ⟨_, mg_Fs rfl rfl, ?_⟩ | refine ⟨Or.inl rfl, ?_⟩ | refine ⟨Or.inr ⟨_, rfl⟩, ?_⟩ | refine ⟨fun _ => ?_, fun h => absurd h (by decide)⟩ | refine ⟨fun h => absurd h (by decide), fun _ => ?_⟩)
    refine mg_m_mono (c66 d kc_s2 hS3 hW (by omega) hT3 m3 hwn) (by omega) ?_
    rintro o q G4 ⟨rfl, rfl, hS4, hW4, hf4⟩
    have f2 : mg_fr (fun a => a = 6) G2 (cW G2 6 (aF A) (a_wds (aV A)) (fun w => G2.2.1 28 (4 * 0 + w))) := mg_fr.cW _ _ _ _ rfl
    have hM3 := hM2.c hS3 hW f2 (fun a ha => by omega)
    exact c42S d (A' := addF A (k_W l (k_E l p)) T) (q := q9) hr hW hl6 hp hkd e0 (hM3.c hS4 hW4 hf4 (fun a ha => by omega)) _ _ _ _ _ _ _
theorem c42s0 (d : Nat) (hp : p ≤ l.length) (hkd : k_kd l p = some 0) (h12 : aF A ≠ 12) (hM : sM G0 G A l (k_E l p)) (e1 e2 : Option Value) {r : sR} (hr : r = tE l (tC A l p 0)) : mg_wp (mg_KC scr t) mc_42 (d + 200) 82 [some (.ref 3), e1, e2, some (.int (Int32.ofNat 0)), none, none, none, none] [] G (cD G0 l r) := by
  have hE := k_E_le hp
  have kd := c45 (scr := scr) (t := t) d hM hE
  refine mg_go [167, 376] 120 82 ms_42 ?_
  repeat (first | refine ⟨_, mg_Fs rfl rfl, ?_⟩ | refine ⟨Or.inl rfl, ?_⟩ | refine ⟨Or.inr ⟨_, rfl⟩, ?_⟩ | refine ⟨fun _ => ?_, fun h => absurd h (by decide)⟩ | refine ⟨fun h => absurd h (by decide), fun _ => ?_⟩)
  refine mg_cv (c43 d 0 (by decide)) (by omega) ?_
  refine ⟨fun _ => ?_, fun q => absurd rfl q⟩
  refine ⟨by decide, fun q => absurd q (by decide), fun _ => ?_, fun q => absurd q (by decide), fun q => absurd q (by decide), fun q => absurd q (by decide), fun q => absurd q (by decide), fun q => absurd q (by decide), fun q => absurd q (by decide), trivial⟩
  repeat (first | refine ⟨_, mg_Fs rfl rfl, ?_⟩ | refine ⟨Or.inl rfl, ?_⟩ | refine ⟨Or.inr ⟨_, rfl⟩, ?_⟩ | refine ⟨fun _ => ?_, fun h => absurd h (by decide)⟩ | refine ⟨fun h => absurd h (by decide), fun _ => ?_⟩)
  refine mg_m_mono (kd) (by omega) ?_
  rintro o q G1 (⟨b1, b2, rfl, rfl, hM1⟩ | ⟨e9, e, rfl, rfl, w⟩)
  · have hW := hM.2.1.2.1
    repeat (first | refine ⟨_, mg_Fs rfl rfl, ?_⟩ | refine ⟨Or.inl rfl, ?_⟩ | refine ⟨Or.inr ⟨_, rfl⟩, ?_⟩ | refine ⟨fun _ => ?_, fun h => absurd h (by decide)⟩ | refine ⟨fun h => absurd h (by decide), fun _ => ?_⟩)
    refine ⟨_, mg_Fe hM1.2.1.1.1 rfl rfl, rfl, _, rfl, rfl, ?_⟩
    have f1 : mg_fr (fun a => a = 27) G1 (mg_sF G1 27 1 (.int (Int32.ofNat (a_wds (aV A))))) := mg_fr.sF _ _ _ rfl
    have hM2 := hM1.c (hM1.2.1.1.fr f1 (fun a ha => by unfold kQ at ha; omega)) hW f1 (fun a ha => by omega)
    exact c42n d hp hkd h12 hM2 ⟨hM2.2.1.1, hW, hM2.2.1.2.2.1, hM2.2.1.2.2.2.1, hM2.2.1.2.2.2.2.1, mg_sF_at _ _ _ _, hM2.2.1.2.2.2.2.2⟩ b1 b2 _ _ _ _ hr
  · exact c42E (A := A) (l := l) (p := p) (k := 0) hr ((tC_0 A l p).trans ((if_neg h12).trans e)) w
theorem c42s1 (d : Nat) (hp : p ≤ l.length) (hkd : k_kd l p = some 1) (hM : sM G0 G A l (k_E l p)) (e1 e2 : Option Value) {r : sR} (hr : r = tE l (tC A l p 1)) : mg_wp (mg_KC scr t) mc_42 (d + 200) 82 [some (.ref 3), e1, e2, some (.int (Int32.ofNat 1)), none, none, none, none] [] G (cD G0 l r) := by
  obtain ⟨hS, hW, hN, hB, hk, h5⟩ := id hM.2.1
  have h8 : aV A ≤ 8 := hW.2.1.2.2.2
  have h1 : 1 ≤ aV A := hW.1
  have hl6 := hN.2.1
  have hE := k_E_le hp
  have hEE := k_E_le hE
  refine mg_go [376] 120 82 ms_42 ?_
  repeat (first | refine ⟨_, mg_Fs rfl rfl, ?_⟩ | refine ⟨Or.inl rfl, ?_⟩ | refine ⟨Or.inr ⟨_, rfl⟩, ?_⟩ | refine ⟨fun _ => ?_, fun h => absurd h (by decide)⟩ | refine ⟨fun h => absurd h (by decide), fun _ => ?_⟩)
  refine mg_cv (c43 d 1 (by decide)) (by omega) ?_
  refine ⟨fun q => absurd q (by decide), fun _ => ?_⟩
  repeat (first | refine ⟨_, mg_Fs rfl rfl, ?_⟩ | refine ⟨Or.inl rfl, ?_⟩ | refine ⟨Or.inr ⟨_, rfl⟩, ?_⟩ | refine ⟨fun _ => ?_, fun h => absurd h (by decide)⟩ | refine ⟨fun h => absurd h (by decide), fun _ => ?_⟩)
  refine mg_m_mono (c48M d hM hE (t_v1 A l)) (by omega) ?_
  rintro o q G1 (⟨v, hv, -, e, rfl, rfl, hM1⟩ | ⟨e9, e, rfl, rfl, w⟩)
  · have e0 : tC A l p 1 = tNum l (k_E l (k_E l p)) 100 (t_c1 A v) := (tC_1 A l p).trans e
    refine ⟨by decide, fun q => absurd q (by decide), fun q => absurd q (by decide), fun _ => ?_, fun q => absurd q (by decide), fun q => absurd q (by decide), fun q => absurd q (by decide), fun q => absurd q (by decide), fun q => absurd q (by decide), trivial⟩
    repeat (first | refine ⟨_, mg_Fs rfl rfl, ?_⟩ | refine ⟨Or.inl rfl, ?_⟩ | refine ⟨Or.inr ⟨_, rfl⟩, ?_⟩ | refine ⟨fun _ => ?_, fun h => absurd h (by decide)⟩ | refine ⟨fun h => absurd h (by decide), fun _ => ?_⟩)
    refine mg_m_mono (c47M d hM1 hEE (b := 100) (by decide) (by decide) (t_c1 A v)) (by omega) ?_
    rintro o q G2 (⟨hn, e9, rfl, rfl, hM2⟩ | ⟨e9, e3, rfl, rfl, w⟩)
    · have f1 : mg_fr (fun a => a = 10) G2 (mg_sI G2 10 v (Int32.ofNat (k_N l (k_E l (k_E l p))))) := mg_fr.sI _ _ _ rfl
      refine ⟨8, v, rfl, mg_ixN (by omega), by omega, ?_⟩
      have e7 : tC A l p 1 = .inr (setC A v (Int32.ofNat (k_N l (k_E l (k_E l p)))), k_E l (k_E l (k_E l p))) := e0.trans e9
      exact c42S d hr hW hl6 hp hkd e7 (hM2.c (cS_setC hM2.2.1.1 _) (setC_W hW _ _) f1 (fun a ha => by omega)) _ _ _ _ _ _ _
    · exact c42E (A := A) (l := l) (p := p) (k := 1) hr (e0.trans e3) w
  · exact c42E (A := A) (l := l) (p := p) (k := 1) hr ((tC_1 A l p).trans e) w
theorem c42s2 (d : Nat) (hp : p ≤ l.length) (hkd : k_kd l p = some 2) (hM : sM G0 G A l (k_E l p)) (e1 e2 : Option Value) {r : sR} (hr : r = tE l (tC A l p 2)) : mg_wp (mg_KC scr t) mc_42 (d + 200) 82 [some (.ref 3), e1, e2, some (.int (Int32.ofNat 2)), none, none, none, none] [] G (cD G0 l r) := by
  obtain ⟨hS, hW, hN, hB, hk, h5⟩ := id hM.2.1
  have h8 : aV A ≤ 8 := hW.2.1.2.2.2
  have h1 : 1 ≤ aV A := hW.1
  have hl6 := hN.2.1
  have hE := k_E_le hp
  have hEE := k_E_le hE
  refine mg_go [376] 120 82 ms_42 ?_
  repeat (first | refine ⟨_, mg_Fs rfl rfl, ?_⟩ | refine ⟨Or.inl rfl, ?_⟩ | refine ⟨Or.inr ⟨_, rfl⟩, ?_⟩ | refine ⟨fun _ => ?_, fun h => absurd h (by decide)⟩ | refine ⟨fun h => absurd h (by decide), fun _ => ?_⟩)
  refine mg_cv (c43 d 2 (by decide)) (by omega) ?_
  refine ⟨fun q => absurd q (by decide), fun _ => ?_⟩
  repeat (first | refine ⟨_, mg_Fs rfl rfl, ?_⟩ | refine ⟨Or.inl rfl, ?_⟩ | refine ⟨Or.inr ⟨_, rfl⟩, ?_⟩ | refine ⟨fun _ => ?_, fun h => absurd h (by decide)⟩ | refine ⟨fun h => absurd h (by decide), fun _ => ?_⟩)
  refine mg_m_mono (c48M d hM hE (t_v2 A l)) (by omega) ?_
  rintro o q G1 (⟨v, hv, -, e, rfl, rfl, hM1⟩ | ⟨e9, e, rfl, rfl, w⟩)
  · have e0 : tC A l p 2 = tNum l (k_E l (k_E l p)) 101 (t_c2 A v) := (tC_2 A l p).trans e
    refine ⟨by decide, fun q => absurd q (by decide), fun q => absurd q (by decide), fun q => absurd q (by decide), fun _ => ?_, fun q => absurd q (by decide), fun q => absurd q (by decide), fun q => absurd q (by decide), fun q => absurd q (by decide), trivial⟩
    repeat (first | refine ⟨_, mg_Fs rfl rfl, ?_⟩ | refine ⟨Or.inl rfl, ?_⟩ | refine ⟨Or.inr ⟨_, rfl⟩, ?_⟩ | refine ⟨fun _ => ?_, fun h => absurd h (by decide)⟩ | refine ⟨fun h => absurd h (by decide), fun _ => ?_⟩)
    refine mg_m_mono (c47M d hM1 hEE (b := 101) (by decide) (by decide) (t_c2 A v)) (by omega) ?_
    rintro o q G2 (⟨hn, e9, rfl, rfl, hM2⟩ | ⟨e9, e3, rfl, rfl, w⟩)
    · have f1 : mg_fr (fun a => a = 11) G2 (mg_sI G2 11 v (Int32.ofNat (k_N l (k_E l (k_E l p))))) := mg_fr.sI _ _ _ rfl
      refine ⟨8, v, rfl, mg_ixN (by omega), by omega, ?_⟩
      have e7 : tC A l p 2 = .inr (setP A v (Int32.ofNat (k_N l (k_E l (k_E l p)))), k_E l (k_E l (k_E l p))) := e0.trans e9
      exact c42S d hr hW hl6 hp hkd e7 (hM2.c (cS_setP hM2.2.1.1 _) (setP_W hW _ _ (by omega)) f1 (fun a ha => by omega)) _ _ _ _ _ _ _
    · exact c42E (A := A) (l := l) (p := p) (k := 2) hr (e0.trans e3) w
  · exact c42E (A := A) (l := l) (p := p) (k := 2) hr ((tC_2 A l p).trans e) w
theorem c42s3 (d : Nat) (hp : p ≤ l.length) (hkd : k_kd l p = some 3) (hM : sM G0 G A l (k_E l p)) (e1 e2 : Option Value) {r : sR} (hr : r = tE l (tC A l p 3)) : mg_wp (mg_KC scr t) mc_42 (d + 200) 82 [some (.ref 3), e1, e2, some (.int (Int32.ofNat 3)), none, none, none, none] [] G (cD G0 l r) := by
  obtain ⟨hS, hW, hN, hB, hk, h5⟩ := id hM.2.1
  have h8 : aV A ≤ 8 := hW.2.1.2.2.2
  have h1 : 1 ≤ aV A := hW.1
  have hl6 := hN.2.1
  have hE := k_E_le hp
  have hEE := k_E_le hE
  refine mg_go [376] 120 82 ms_42 ?_
  repeat (first | refine ⟨_, mg_Fs rfl rfl, ?_⟩ | refine ⟨Or.inl rfl, ?_⟩ | refine ⟨Or.inr ⟨_, rfl⟩, ?_⟩ | refine ⟨fun _ => ?_, fun h => absurd h (by decide)⟩ | refine ⟨fun h => absurd h (by decide), fun _ => ?_⟩)
  refine mg_cv (c43 d 3 (by decide)) (by omega) ?_
  refine ⟨fun _ => ?_, fun q => absurd rfl q⟩
  refine ⟨by decide, fun q => absurd q (by decide), fun q => absurd q (by decide), fun q => absurd q (by decide), fun q => absurd q (by decide), fun _ => ?_, fun q => absurd q (by decide), fun q => absurd q (by decide), fun q => absurd q (by decide), trivial⟩
  repeat (first | refine ⟨_, mg_Fs rfl rfl, ?_⟩ | refine ⟨Or.inl rfl, ?_⟩ | refine ⟨Or.inr ⟨_, rfl⟩, ?_⟩ | refine ⟨fun _ => ?_, fun h => absurd h (by decide)⟩ | refine ⟨fun h => absurd h (by decide), fun _ => ?_⟩)
  refine mg_m_mono (c49M d hM hE (t_f3 A)) (by omega) ?_
  rintro o q G1 (⟨f, hf, e, rfl, rfl, hM1⟩ | ⟨e9, e, rfl, rfl, w⟩)
  · repeat (first | refine ⟨_, mg_Fs rfl rfl, ?_⟩ | refine ⟨Or.inl rfl, ?_⟩ | refine ⟨Or.inr ⟨_, rfl⟩, ?_⟩ | refine ⟨fun _ => ?_, fun h => absurd h (by decide)⟩ | refine ⟨fun h => absurd h (by decide), fun _ => ?_⟩)
    refine mg_m_mono (c67 d kc_s2 hM1.2.1.1 hW hf) (by omega) ?_
    rintro o q G2 ⟨rfl, rfl, hS2, f2⟩
    have e7 : tC A l p 3 = .inr (remF A f, k_E l (k_E l p)) := (tC_3 A l p).trans e
    exact c42S d hr hW hl6 hp hkd e7 (hM1.c hS2 (remF_W hW _) f2 (fun a ha => by omega)) _ _ _ _ _ _ _
  · exact c42E (A := A) (l := l) (p := p) (k := 3) hr ((tC_3 A l p).trans e) w
theorem c42s4 (d : Nat) (hp : p ≤ l.length) (hkd : k_kd l p = some 4) (hM : sM G0 G A l (k_E l p)) (e1 e2 : Option Value) {r : sR} (hr : r = tE l (tC A l p 4)) : mg_wp (mg_KC scr t) mc_42 (d + 200) 82 [some (.ref 3), e1, e2, some (.int (Int32.ofNat 4)), none, none, none, none] [] G (cD G0 l r) := by
  obtain ⟨hS, hW, hN, hB, hk, h5⟩ := id hM.2.1
  have h8 : aV A ≤ 8 := hW.2.1.2.2.2
  have h1 : 1 ≤ aV A := hW.1
  have hl6 := hN.2.1
  have hE := k_E_le hp
  have hEE := k_E_le hE
  refine mg_go [376] 120 82 ms_42 ?_
  repeat (first | refine ⟨_, mg_Fs rfl rfl, ?_⟩ | refine ⟨Or.inl rfl, ?_⟩ | refine ⟨Or.inr ⟨_, rfl⟩, ?_⟩ | refine ⟨fun _ => ?_, fun h => absurd h (by decide)⟩ | refine ⟨fun h => absurd h (by decide), fun _ => ?_⟩)
  refine mg_cv (c43 d 4 (by decide)) (by omega) ?_
  refine ⟨fun _ => ?_, fun q => absurd rfl q⟩
  refine ⟨by decide, fun q => absurd q (by decide), fun q => absurd q (by decide), fun q => absurd q (by decide), fun q => absurd q (by decide), fun q => absurd q (by decide), fun _ => ?_, fun q => absurd q (by decide), fun q => absurd q (by decide), trivial⟩
  repeat (first | refine ⟨_, mg_Fs rfl rfl, ?_⟩ | refine ⟨Or.inl rfl, ?_⟩ | refine ⟨Or.inr ⟨_, rfl⟩, ?_⟩ | refine ⟨fun _ => ?_, fun h => absurd h (by decide)⟩ | refine ⟨fun h => absurd h (by decide), fun _ => ?_⟩)
  refine ⟨_, mg_Fe hS.2.2.1 rfl rfl, ?_⟩
  repeat (first | refine ⟨_, mg_Fs rfl rfl, ?_⟩ | refine ⟨Or.inl rfl, ?_⟩ | refine ⟨Or.inr ⟨_, rfl⟩, ?_⟩ | refine ⟨fun _ => ?_, fun h => absurd h (by decide)⟩ | refine ⟨fun h => absurd h (by decide), fun _ => ?_⟩)
  refine mg_m_mono (c47M d hM hE (b := aV A - 1) (by omega) (mg_pre2 h1 (by omega)) (t_n4 A)) (by omega) ?_
  rintro o q G1 (⟨hn, e, rfl, rfl, hM1⟩ | ⟨e9, e, rfl, rfl, w⟩)
  · have k1 := c173 (K := mg_KC scr t) (G := G1) (z := 9) (n := 8) d rfl (by decide) h8 (by decide) hM1.2.1.1.2.2.2.2.2.2.1 (show k_N l (k_E l p) < aV A by omega) (show k_N l (k_E l p) + 1 < aV A by omega)
    rw [← mg_inc (k_N l (k_E l p))] at k1
    repeat (first | refine ⟨_, mg_Fs rfl rfl, ?_⟩ | refine ⟨Or.inl rfl, ?_⟩ | refine ⟨Or.inr ⟨_, rfl⟩, ?_⟩ | refine ⟨fun _ => ?_, fun h => absurd h (by decide)⟩ | refine ⟨fun h => absurd h (by decide), fun _ => ?_⟩)
    refine mg_m_mono (k1) (by omega) ?_
    rintro o q G2 ⟨rfl, rfl, f', rfl, hf'⟩
    have f2 : mg_fr (fun a => a = 9) G1 (gM G1 9 f') := mg_fr.u1 _ _ rfl
    have e7 : tC A l p 4 = .inr (setD A (a_mv (aD A) (k_N l (k_E l p)) (k_N l (k_E l p) + 1)), k_E l (k_E l p)) := (tC_4 A l p).trans e
    exact c42S d hr hW hl6 hp hkd e7 (hM1.c (cS_setD hM1.2.1.1 hf') (setD_W hW (a_mv_O hW.2.1 (by omega) (by omega))) f2 (fun a ha => by omega)) _ _ _ _ _ _ _
  · exact c42E (A := A) (l := l) (p := p) (k := 4) hr ((tC_4 A l p).trans e) w
theorem c42s5 (d : Nat) (hp : p ≤ l.length) (hkd : k_kd l p = some 5) (hM : sM G0 G A l (k_E l p)) (e1 e2 : Option Value) {r : sR} (hr : r = tE l (tC A l p 5)) : mg_wp (mg_KC scr t) mc_42 (d + 200) 82 [some (.ref 3), e1, e2, some (.int (Int32.ofNat 5)), none, none, none, none] [] G (cD G0 l r) := by
  obtain ⟨hS, hW, hN, hB, hk, h5⟩ := id hM.2.1
  have h8 : aV A ≤ 8 := hW.2.1.2.2.2
  have h1 : 1 ≤ aV A := hW.1
  have hl6 := hN.2.1
  have hE := k_E_le hp
  have hEE := k_E_le hE
  refine mg_go [376] 120 82 ms_42 ?_
  repeat (first | refine ⟨_, mg_Fs rfl rfl, ?_⟩ | refine ⟨Or.inl rfl, ?_⟩ | refine ⟨Or.inr ⟨_, rfl⟩, ?_⟩ | refine ⟨fun _ => ?_, fun h => absurd h (by decide)⟩ | refine ⟨fun h => absurd h (by decide), fun _ => ?_⟩)
  refine mg_cv (c43 d 5 (by decide)) (by omega) ?_
  refine ⟨fun q => absurd q (by decide), fun _ => ?_⟩
  repeat (first | refine ⟨_, mg_Fs rfl rfl, ?_⟩ | refine ⟨Or.inl rfl, ?_⟩ | refine ⟨Or.inr ⟨_, rfl⟩, ?_⟩ | refine ⟨fun _ => ?_, fun h => absurd h (by decide)⟩ | refine ⟨fun h => absurd h (by decide), fun _ => ?_⟩)
  refine mg_m_mono (c48M d hM hE (t_v5 A l)) (by omega) ?_
  rintro o q G1 (⟨v, hv, -, e, rfl, rfl, hM1⟩ | ⟨e9, e, rfl, rfl, w⟩)
  · have e0 : tC A l p 5 = tNum l (k_E l (k_E l p)) (aV A) (t_c5 A v) := (tC_5 A l p).trans e
    refine ⟨by decide, fun q => absurd q (by decide), fun q => absurd q (by decide), fun q => absurd q (by decide), fun q => absurd q (by decide), fun q => absurd q (by decide), fun q => absurd q (by decide), fun _ => ?_, fun q => absurd q (by decide), trivial⟩
    repeat (first | refine ⟨_, mg_Fs rfl rfl, ?_⟩ | refine ⟨Or.inl rfl, ?_⟩ | refine ⟨Or.inr ⟨_, rfl⟩, ?_⟩ | refine ⟨fun _ => ?_, fun h => absurd h (by decide)⟩ | refine ⟨fun h => absurd h (by decide), fun _ => ?_⟩)
    refine mg_cv (c70A d kc_s2 hM1.2.1.1 hW hv) (by omega) ?_
    repeat (first | refine ⟨_, mg_Fs rfl rfl, ?_⟩ | refine ⟨Or.inl rfl, ?_⟩ | refine ⟨Or.inr ⟨_, rfl⟩, ?_⟩ | refine ⟨fun _ => ?_, fun h => absurd h (by decide)⟩ | refine ⟨fun h => absurd h (by decide), fun _ => ?_⟩)
    refine ⟨_, mg_Fe hM1.2.1.1.2.2.1 rfl rfl, ?_⟩
    repeat (first | refine ⟨_, mg_Fs rfl rfl, ?_⟩ | refine ⟨Or.inl rfl, ?_⟩ | refine ⟨Or.inr ⟨_, rfl⟩, ?_⟩ | refine ⟨fun _ => ?_, fun h => absurd h (by decide)⟩ | refine ⟨fun h => absurd h (by decide), fun _ => ?_⟩)
    refine mg_m_mono (c47M d hM1 hEE (b := aV A) (by omega) rfl (t_c5 A v)) (by omega) ?_
    rintro o q G2 (⟨hn, e9, rfl, rfl, hM2⟩ | ⟨e9, e3, rfl, rfl, w⟩)
    · repeat (first | refine ⟨_, mg_Fs rfl rfl, ?_⟩ | refine ⟨Or.inl rfl, ?_⟩ | refine ⟨Or.inr ⟨_, rfl⟩, ?_⟩ | refine ⟨fun _ => ?_, fun h => absurd h (by decide)⟩ | refine ⟨fun h => absurd h (by decide), fun _ => ?_⟩)
      refine mg_m_mono (c173 (K := mg_KC scr t) (G := G2) (z := 9) (n := 8) d rfl (by decide) h8 (by decide) hM2.2.1.1.2.2.2.2.2.2.1 (a_lvl_at hW hv).1 hn) (by omega) ?_
      rintro o q G3 ⟨rfl, rfl, f', rfl, hf'⟩
      have f2 : mg_fr (fun a => a = 9) G2 (gM G2 9 f') := mg_fr.u1 _ _ rfl
      have e7 : tC A l p 5 = .inr (a_shf A v (k_N l (k_E l (k_E l p))), k_E l (k_E l (k_E l p))) := e0.trans e9
      exact c42S d hr hW hl6 hp hkd e7 (hM2.c (cS_setD hM2.2.1.1 hf') (a_shf_W hW hv hn) f2 (fun a ha => by omega)) _ _ _ _ _ _ _
    · exact c42E (A := A) (l := l) (p := p) (k := 5) hr (e0.trans e3) w
  · exact c42E (A := A) (l := l) (p := p) (k := 5) hr ((tC_5 A l p).trans e) w
theorem c42s6 (d : Nat) (hp : p ≤ l.length) (hkd : k_kd l p = some 6) (hM : sM G0 G A l (k_E l p)) (e1 e2 : Option Value) {r : sR} (hr : r = tE l (tC A l p 6)) : mg_wp (mg_KC scr t) mc_42 (d + 200) 82 [some (.ref 3), e1, e2, some (.int (Int32.ofNat 6)), none, none, none, none] [] G (cD G0 l r) := by
  obtain ⟨hS, hW, hN, hB, hk, h5⟩ := id hM.2.1
  have h8 : aV A ≤ 8 := hW.2.1.2.2.2
  have h1 : 1 ≤ aV A := hW.1
  have hl6 := hN.2.1
  have hE := k_E_le hp
  have hEE := k_E_le hE
  refine mg_go [376] 120 82 ms_42 ?_
  repeat (first | refine ⟨_, mg_Fs rfl rfl, ?_⟩ | refine ⟨Or.inl rfl, ?_⟩ | refine ⟨Or.inr ⟨_, rfl⟩, ?_⟩ | refine ⟨fun _ => ?_, fun h => absurd h (by decide)⟩ | refine ⟨fun h => absurd h (by decide), fun _ => ?_⟩)
  refine mg_cv (c43 d 6 (by decide)) (by omega) ?_
  refine ⟨fun q => absurd q (by decide), fun _ => ?_⟩
  repeat (first | refine ⟨_, mg_Fs rfl rfl, ?_⟩ | refine ⟨Or.inl rfl, ?_⟩ | refine ⟨Or.inr ⟨_, rfl⟩, ?_⟩ | refine ⟨fun _ => ?_, fun h => absurd h (by decide)⟩ | refine ⟨fun h => absurd h (by decide), fun _ => ?_⟩)
  refine mg_m_mono (c48M d hM hE (t_v6 A)) (by omega) ?_
  rintro o q G1 (⟨v, hv, -, e, rfl, rfl, hM1⟩ | ⟨e9, e, rfl, rfl, w⟩)
  · refine ⟨by decide, fun q => absurd q (by decide), fun q => absurd q (by decide), fun q => absurd q (by decide), fun q => absurd q (by decide), fun q => absurd q (by decide), fun q => absurd q (by decide), fun q => absurd q (by decide), fun _ => ?_, trivial⟩
    repeat (first | refine ⟨_, mg_Fs rfl rfl, ?_⟩ | refine ⟨Or.inl rfl, ?_⟩ | refine ⟨Or.inr ⟨_, rfl⟩, ?_⟩ | refine ⟨fun _ => ?_, fun h => absurd h (by decide)⟩ | refine ⟨fun h => absurd h (by decide), fun _ => ?_⟩)
    refine mg_cv (c70A d kc_s2 hM1.2.1.1 hW hv) (by omega) ?_
    have k60 : mg_m (mg_KC scr t) (d + 14) 60 [.ref 14, .ref 4, .int (Int32.ofNat v)] G1 (fun o q G' => q = 0 ∧ o = .inl (some (.int (Int32.ofNat (a_best A v)))) ∧ mg_fr (kG 15) G1 G') := mg_m_mono (c60 d kc_x3 kc_s2 (Or.inl (by decide)) hM1.2.1.1 hW hv) (by omega) (fun _ _ _ h => h)
    repeat (first | refine ⟨_, mg_Fs rfl rfl, ?_⟩ | refine ⟨Or.inl rfl, ?_⟩ | refine ⟨Or.inr ⟨_, rfl⟩, ?_⟩ | refine ⟨fun _ => ?_, fun h => absurd h (by decide)⟩ | refine ⟨fun h => absurd h (by decide), fun _ => ?_⟩)
    refine mg_m_mono (k60) (by omega) ?_
    rintro o q G2 ⟨rfl, rfl, f1⟩
    have hM2 := hM1.c (hM1.2.1.1.fr f1 (fun a ha => by unfold kQ at ha; unfold kG; omega)) hW f1 (fun a ha => by unfold kG at ha; omega)
    repeat (first | refine ⟨_, mg_Fs rfl rfl, ?_⟩ | refine ⟨Or.inl rfl, ?_⟩ | refine ⟨Or.inr ⟨_, rfl⟩, ?_⟩ | refine ⟨fun _ => ?_, fun h => absurd h (by decide)⟩ | refine ⟨fun h => absurd h (by decide), fun _ => ?_⟩)
    refine mg_m_mono (c173 (K := mg_KC scr t) (G := G2) (z := 9) (n := 8) d rfl (by decide) h8 (by decide) hM2.2.1.1.2.2.2.2.2.2.1 (a_lvl_at hW hv).1 (a_best_lt hW hv)) (by omega) ?_
    rintro o q G3 ⟨rfl, rfl, f', rfl, hf'⟩
    have f2 : mg_fr (fun a => a = 9) G2 (gM G2 9 f') := mg_fr.u1 _ _ rfl
    have e7 : tC A l p 6 = .inr (a_sft A v, k_E l (k_E l p)) := (tC_6 A l p).trans e
    exact c42S d hr hW hl6 hp hkd e7 (hM2.c (cS_setD hM2.2.1.1 hf') (a_sft_W hW hv) f2 (fun a ha => by omega)) _ _ _ _ _ _ _
  · exact c42E (A := A) (l := l) (p := p) (k := 6) hr ((tC_6 A l p).trans e) w
theorem c42s7 (d : Nat) (hp : p ≤ l.length) (hkd : k_kd l p = some 7) (hM : sM G0 G A l (k_E l p)) (e1 e2 : Option Value) {r : sR} (hr : r = tE l (tC A l p 7)) : mg_wp (mg_KC scr t) mc_42 (d + 200) 82 [some (.ref 3), e1, e2, some (.int (Int32.ofNat 7)), none, none, none, none] [] G (cD G0 l r) := by
  obtain ⟨hS, hW, hN, hB, hk, h5⟩ := id hM.2.1
  have h8 : aV A ≤ 8 := hW.2.1.2.2.2
  have h1 : 1 ≤ aV A := hW.1
  have hl6 := hN.2.1
  have hE := k_E_le hp
  have hEE := k_E_le hE
  refine mg_go [376] 120 82 ms_42 ?_
  repeat (first | refine ⟨_, mg_Fs rfl rfl, ?_⟩ | refine ⟨Or.inl rfl, ?_⟩ | refine ⟨Or.inr ⟨_, rfl⟩, ?_⟩ | refine ⟨fun _ => ?_, fun h => absurd h (by decide)⟩ | refine ⟨fun h => absurd h (by decide), fun _ => ?_⟩)
  refine mg_cv (c43 d 7 (by decide)) (by omega) ?_
  refine ⟨fun _ => ?_, fun q => absurd rfl q⟩
  refine ⟨by decide, fun _ => ?_, fun q => absurd q (by decide), fun q => absurd q (by decide), fun q => absurd q (by decide), fun q => absurd q (by decide), fun q => absurd q (by decide), fun q => absurd q (by decide), fun q => absurd q (by decide), trivial⟩
  have k61 : mg_m (mg_KC scr t) (d + 15) 61 [.ref 14, .ref 4] G (fun o q G' => q = 0 ∧ o = .inl none ∧ cS G' 4 (a_sfa A) ∧ mg_fr (kY 4 15 26) G G') := mg_m_mono (c61 d kc_x3 kc_s2 (Or.inl (by decide)) ⟨by unfold kQ; omega, by unfold kG; omega⟩ hS hW) (by omega) (fun _ _ _ h => h)
  repeat (first | refine ⟨_, mg_Fs rfl rfl, ?_⟩ | refine ⟨Or.inl rfl, ?_⟩ | refine ⟨Or.inr ⟨_, rfl⟩, ?_⟩ | refine ⟨fun _ => ?_, fun h => absurd h (by decide)⟩ | refine ⟨fun h => absurd h (by decide), fun _ => ?_⟩)
  refine mg_m_mono (k61) (by omega) ?_
  rintro o q G1 ⟨rfl, rfl, hS1, f1⟩
  exact c42S d hr hW hl6 hp hkd (tC_7 A l p) (hM.c hS1 (a_sfs_W hW _ _) f1 (fun a ha => by unfold kY kG at ha; omega)) _ _ _ _ _ _ _
theorem c42s (d : Nat) {k : Nat} (hp : p ≤ l.length) (hkd : k_kd l p = some k) (h0 : ¬ (k = 0 ∧ aF A = 12)) (hM : sM G0 G A l (k_E l p)) (e1 e2 : Option Value) : mg_wp (mg_KC scr t) mc_42 (d + 200) 82 [some (.ref 3), e1, e2, some (.int (Int32.ofNat k)), none, none, none, none] [] G (cD G0 l (tE l (tC A l p k))) := by
  obtain ⟨hk8, -⟩ := k_kd_w hkd
  rcases (show k = 0 ∨ k = 1 ∨ k = 2 ∨ k = 3 ∨ k = 4 ∨ k = 5 ∨ k = 6 ∨ k = 7 by omega) with rfl | rfl | rfl | rfl | rfl | rfl | rfl | rfl
  · exact c42s0 d hp hkd (fun z => h0 ⟨rfl, z⟩) hM e1 e2 rfl
  · exact c42s1 d hp hkd hM e1 e2 rfl
  · exact c42s2 d hp hkd hM e1 e2 rfl
  · exact c42s3 d hp hkd hM e1 e2 rfl
  · exact c42s4 d hp hkd hM e1 e2 rfl
  · exact c42s5 d hp hkd hM e1 e2 rfl
  · exact c42s6 d hp hkd hM e1 e2 rfl
  · exact c42s7 d hp hkd hM e1 e2 rfl
/-- a statement, with its semicolon -/
theorem c42 (d : Nat) (hM : sM G0 G A l p) (hp : p ≤ l.length) (sc : Bool) {many : Nat} (hm : sc = true → many ≤ 30) : mg_m (mg_KC scr t) (d + 201) 42 [.ref 3, .int (b2 sc), .int (Int32.ofNat many)] G (cD G0 l (match k_kd l p with
    | none => .inl (1, k_S l p)
    | some k => if sc = false ∧ 3 ≤ k then .inl (1, k_S l p) else if sc = true ∧ many = 30 then .inl (5, k_S l p) else tS A l p k)) := by
  refine c42h d hM hp sc hm _ (fun G1 k hkd hA hB hC hM1 => ?_) (fun c hc o q G1 ho hq w => ?_)
  · have e : (match k_kd l p with
      | none => (.inl (1, k_S l p) : sR)
      | some k => if sc = false ∧ 3 ≤ k then .inl (1, k_S l p) else if sc = true ∧ many = 30 then .inl (5, k_S l p) else tS A l p k) = tE l (tC A l p k) := by
      rw [hkd]
      exact (if_neg hA).trans (if_neg hB)
    rw [e]
    exact c42s d hp hkd hC hM1 _ _
  · have e : (match k_kd l p with
      | none => (.inl (1, k_S l p) : sR)
      | some k => if sc = false ∧ 3 ≤ k then .inl (1, k_S l p) else if sc = true ∧ many = 30 then .inl (5, k_S l p) else tS A l p k) = .inl (c, k_S l p) := by
      cases hkd : k_kd l p with
      | none =>
        rw [hkd] at hc
        cases hc
        rfl
      | some k =>
        rw [hkd] at hc
        have hc : (if sc = false ∧ 3 ≤ k then some (1 : Int32) else if sc = true ∧ many = 30 then some 5 else if k = 0 ∧ aF A = 12 then some 5 else none) = some c := hc
        show (if sc = false ∧ 3 ≤ k then (.inl (1, k_S l p) : sR) else if sc = true ∧ many = 30 then .inl (5, k_S l p) else tS A l p k) = _
        by_cases hA : sc = false ∧ 3 ≤ k
        · rw [if_pos hA] at hc ⊢
          cases hc
          rfl
        rw [if_neg hA] at hc ⊢
        by_cases hB : sc = true ∧ many = 30
        · rw [if_pos hB] at hc ⊢
          cases hc
          rfl
        rw [if_neg hB] at hc ⊢
        by_cases hC : k = 0 ∧ aF A = 12
        · rw [if_pos hC] at hc
          cases hc
          obtain ⟨rfl, h12⟩ := hC
          show tE l (tLet A l p) = _
          unfold tLet
          rw [if_pos h12]
          rfl
        · rw [if_neg hC] at hc
          cases hc
    subst ho
    subst hq
    rw [e]
    exact w
end KC
