abbrev xI : String := "java/lang/IndexOutOfBoundsException"
abbrev xA : String := "java/lang/IllegalArgumentException"
abbrev xS : String := "java/lang/IllegalStateException"
def ex1 (a : String) : Int32 → String := fun _ => a
def ex2 (a b : String) : Int32 → String := fun x => if x = 1 then a else b
def ex3 (a b c : String) : Int32 → String := fun x => if x = 1 then a else if x = 2 then b else c
abbrev cFr148 (G G' : mg_G) : Prop := mg_fr (fun b => b < 148) G G'
/-- the answer of a call of the class: what is thrown, or the value; what is kept -/
def cA (G : mg_G) (ex : Int32 → String) (S : a_S) (a : qR) : mg_Q := fun o q G' => ((a.1 = 0 ∧ o = .inl (some (.int a.2))) ∨ (a.1 ≠ 0 ∧ o = .inr (ex a.1))) ∧ q ≤ 2 ∧ cT G' S ∧ cFr148 G G'
theorem cA_x {G : mg_G} {ex : Int32 → String} {S : a_S} {x y : Int32} {E : String} (hT : cT G S) (hx : x ≠ 0) (e : ex x = E) : cA G ex S (x, y) (.inr E) 1 G := ⟨Or.inr ⟨hx, by rw [← e]⟩, by decide, hT, mg_fr.rf _ _⟩
theorem cA_v {G G' : mg_G} {ex : Int32 → String} {S : a_S} {v w : Int32} (hT : cT G' S) (hF : cFr148 G G') (e : v = w) : cA G ex S (0, w) (.inl (some (.int v))) 0 G' := ⟨Or.inl ⟨rfl, by rw [e]⟩, by decide, hT, hF⟩
/-- thrown, once, the memory as it was -/
def mg_x (E : String) (G1 : mg_G) : mg_Q := fun o k G' => o = .inr E ∧ k = 1 ∧ G' = G1
theorem mg_cx {K : mg_K} {d d' y : Nat} {A : List Value} {G G1 : mg_G} {E : String} {Q : mg_Q} (h : mg_m K d y A G (mg_x E G1)) (hd : d ≤ d') (hq : Q (.inr E) 1 G1) : mg_m K d' y A G Q := mg_m_mono h hd (fun o k G' h => by obtain ⟨rfl, rfl, rfl⟩ := h; exact hq)
/-- places that a call may use as it likes -/
def kN (a : Nat) : Prop := a = 0 ∨ kG 122 a ∨ (133 ≤ a ∧ a ≤ 145) ∨ (4 ≤ a ∧ a ≤ 29)
theorem cDA.fr {G G' : mg_G} {A : a_A} {p : Nat → Prop} (h : cDA G A) (hf : mg_fr p G G') (hp : ∀ a, kG 122 a → ¬ p a) : cDA G' A := by
  obtain ⟨⟨h1, h2, h3, h4, h5⟩, h6, h7, h8, h9, h10, h11⟩ := h
  have e1 : ∀ a, kG 122 a → G'.1 a = G.1 a := fun a ha => (hf a (hp a ha)).1
  have e5 : ∀ a, kG 122 a → G'.2.2.2.2 a = G.2.2.2.2 a := fun a ha => (hf a (hp a ha)).2.2.2.2
  have k : ∀ i, i ≤ 10 → kG 122 (122 + i) := fun i hi => by unfold kG; omega
  refine ⟨⟨by rw [e5 122 (k 0 (by decide))]; exact h1, by rw [e5 122 (k 0 (by decide))]; exact h2, fun i hi => ?_, fun i hi => ?_, fun i hi hi2 => ?_⟩, h6, h7, fun f hf2 => ?_, fun j hj => ?_, fun y hy r hr => ?_, by rw [e5 122 (k 0 (by decide))]; exact h11⟩
  · rw [e1 (122 + 3) (k 3 (by decide))]; exact h3 i hi
  · rw [e1 (122 + 4) (k 4 (by decide)), e1 (122 + 5) (k 5 (by decide))]; exact h4 i hi
  · rw [e1 (122 + 4) (k 4 (by decide)), e1 (122 + 5) (k 5 (by decide))]; exact h5 i hi hi2
  · rw [e1 129 (k 7 (by decide))]; exact h8 f hf2
  · rw [e1 130 (k 8 (by decide))]; exact h9 j hj
  · rw [e1 128 (k 6 (by decide))]; exact h10 y hy r hr
theorem cDw.fr {G G' : mg_G} {A : a_A} {p : Nat → Prop} (h : cDw G A) (hf : mg_fr p G G') (h0 : ¬ p 0) (hp : ∀ a, kG 122 a → ¬ p a) : cDw G' A := by
  have e5 : G'.2.2.2.2 0 = G.2.2.2.2 0 := (hf 0 h0).2.2.2.2
  rcases h with h | ⟨h, h2⟩
  · exact Or.inl (by rw [e5]; exact h)
  · exact Or.inr ⟨by rw [e5]; exact h, h2.fr hf hp⟩
theorem cUn.fr {G G' : mg_G} {U : List a_A} {p : Nat → Prop} (h : cUn G U) (hf : mg_fr p G G') (hp : ∀ a, 38 ≤ a ∧ a < 106 → ¬ p a) : cUn G' U := by
  obtain ⟨nx, h1, h2, h3, h4, h5, h6⟩ := h
  have e := hf 38 (hp 38 (by decide))
  refine ⟨nx, h1, by rw [e.2.2.2.2]; exact h2, by rw [e.2.2.2.2]; exact h3, h4, fun i hi => by rw [(hf 39 (hp 39 (by decide))).2.2.2.1]; exact h5 i hi, fun i B hB => ⟨(h6 i B hB).1.fr hf (fun a ha => hp a ?_), (h6 i B hB).2⟩⟩
  unfold kQ at ha
  have := Nat.mod_lt (nx + 8 - U.length + i) (show 0 < 8 by decide)
  omega
theorem cSv.fr {G G' : mg_G} {V : Nat → Option a_A} {p : Nat → Prop} (h : cSv G V) (hf : mg_fr p G G') (hp : ∀ a, a = 40 ∨ a = 41 ∨ (106 ≤ a ∧ a < 122) → ¬ p a) : cSv G' V :=
  ⟨fun s hs => by rw [(hf 40 (hp 40 (by decide))).2.2.2.1]; exact h.1 s hs, fun s hs => ⟨by rw [(hf 41 (hp 41 (by decide))).1]; exact (h.2 s hs).1, fun B hB => ⟨((h.2 s hs).2 B hB).1.fr hf (fun a ha => hp a (by unfold kQ at ha; omega)), ((h.2 s hs).2 B hB).2⟩⟩⟩
theorem cIn.fr {G G' : mg_G} {l : List Nat} {p : Nat → Prop} (h : cIn G l) (hf : mg_fr p G G') (h1 : ¬ p 1) (h2 : ¬ p 2) : cIn G' l :=
  ⟨by rw [(hf 1 h1).2.2.2.2]; exact h.1, h.2.1, fun i c hi => by rw [(hf 2 h2).1]; exact h.2.2 i c hi⟩
theorem cWr.fr {G G' : mg_G} {l : List Nat} {p : Nat → Prop} (h : cWr G l) (hf : mg_fr p G G') (h1 : ¬ p 146) (h2 : ¬ p 147) : cWr G' l :=
  ⟨by rw [(hf 146 h1).2.2.2.2]; exact h.1, h.2.1, fun i c hi => by rw [(hf 147 h2).1]; exact h.2.2 i c hi⟩
theorem cT.fr {G G' : mg_G} {S : a_S} (h : cT G S) (hf : mg_fr kN G G') (hD : cDw G' (sA S)) : cT G' S := by
  obtain ⟨h1, h2, h3, h4, h5, h6, h7, -⟩ := h
  have e3 := (hf 3 (by unfold kN kG; omega)).2.2.2.2
  exact ⟨h1.fr hf (fun a ha => by unfold kQ at ha; unfold kN kG; omega), h2, h3.fr hf (fun a ha => by unfold kN kG; omega), h4.fr hf (fun a ha => by unfold kN kG; omega), h5.fr hf (by unfold kN kG; omega) (by unfold kN kG; omega), ⟨by rw [e3]; exact h6.1, by rw [e3]; exact h6.2⟩, h7.fr hf (by unfold kN kG; omega) (by unfold kN kG; omega), hD⟩
/-- a row behind those of the functions is written -/
theorem cS.w {G : mg_G} {s : Nat} {A : a_A} (h : cS G s A) (hW : aW A) {r n : Nat} {g : Nat → Int64} (hr : 12 ≤ r) : cS (cW G (s + 2) r n g) s A := by
  have h12 := hW.2.2.1
  have hw4 : a_wds (aV A) ≤ 4 := by
    rcases (a_wds_i (aV A) hW.2.1.2.2.2).1 with e | e | e <;> omega
  obtain ⟨h1, h2, h3, h4, h5, h6, h7, h8, h9⟩ := h
  refine ⟨h1, h2, h3, fun f hf w hw2 => ?_, fun f hf => ?_, fun v hv => ?_, h7, h8, h9⟩
  · rw [cW_at _ _ _ _ _ _ (by omega)]
    exact h4 f hf w hw2
  · rw [cW_ne _ _ _ _ _ _ (by omega)]; exact h5 f hf
  · rw [cW_ne _ _ _ _ _ _ (by omega)]; exact h6 v hv
theorem cT.row {G : mg_G} {S : a_S} (h : cT G S) {r n : Nat} {g : Nat → Int64} (hr : 12 ≤ r) : cT (cW G 32 r n g) S := by
  obtain ⟨h1, h2, h3, h4, h5, h6, h7, h8⟩ := h
  have hf : mg_fr (fun a => a = 32) G (cW G 32 r n g) := mg_fr.cW _ _ _ _ rfl
  exact ⟨h1.w h2 hr, h2, h3.fr hf (fun a ha => by omega), h4.fr hf (fun a ha => by omega), h5.fr hf (by decide) (by decide), h6, h7.fr hf (by decide) (by decide), h8.fr hf (by decide) (fun a ha => by unfold kG at ha; omega)⟩
theorem cT.v8 {G : mg_G} {S : a_S} (h : cT G S) : aV (sA S) ≤ 8 := h.2.1.2.1.2.2.2
theorem cT.f12 {G : mg_G} {S : a_S} (h : cT G S) : aF (sA S) ≤ 12 := h.2.1.2.2.1
theorem cT.w4 {G : mg_G} {S : a_S} (h : cT G S) : a_wds (aV (sA S)) ≤ 4 := by
  rcases (a_wds_i (aV (sA S)) h.v8).1 with e | e | e <;> omega
theorem mg_nl0 {k : Nat} (h : k < 2147483648) : ¬ Int32.ofNat k < 0 := fun q => by
  have := (mg_ltN (b := 0) h (by decide)).mp q
  omega
section KC
variable {scr : Nat × (Nat → Int32)} {t : List mg_S} {G : mg_G} {S : a_S}
theorem c156y (d : Nat) (hT : cT G S) {f : Int32} {k : Nat} (h : vi f (aF (sA S)) = some k) : mg_m (mg_KC scr t) (d + 1) 156 [.ref 0, .int f] G (mg_n G) := by
  have h12 := hT.f12
  obtain ⟨rfl, hk⟩ := vi_s h
  refine mg_me [] 60 my_156 ms_156 (Nat.le_of_ble_eq_true rfl) ?_
  refine ⟨fun h => absurd h (mg_nl0 (by omega)), fun _ => ?_⟩
  exact ⟨_, mg_Fs rfl rfl, _, mg_Fe hT.1.2.1 rfl rfl, fun _ => ⟨rfl, rfl, rfl⟩, fun h => absurd h (mg_nle hk (by omega))⟩
theorem c156x (d : Nat) (hT : cT G S) {f : Int32} (h : vi f (aF (sA S)) = none) : mg_m (mg_KC scr t) (d + 1) 156 [.ref 0, .int f] G (mg_x xI G) := by
  have h12 := hT.f12
  have hn := vi_n h (by omega)
  refine mg_me [] 60 my_156 ms_156 (Nat.le_of_ble_eq_true rfl) ?_
  refine ⟨fun _ => ⟨by decide, rfl, rfl, rfl⟩, fun h0 => ?_⟩
  exact ⟨_, mg_Fs rfl rfl, _, mg_Fe hT.1.2.1 rfl rfl, fun h => (hn.elim (fun q => absurd q (Int32.not_lt.mpr h0)) (fun q => absurd h (Int32.not_lt.mpr q))), fun _ => ⟨by decide, rfl, rfl, rfl⟩⟩
theorem c157y (d : Nat) (hT : cT G S) {f : Int32} {k : Nat} (h : vi f (aV (sA S)) = some k) : mg_m (mg_KC scr t) (d + 1) 157 [.ref 0, .int f] G (mg_n G) := by
  have h12 := hT.v8
  obtain ⟨rfl, hk⟩ := vi_s h
  refine mg_me [] 60 my_157 ms_157 (Nat.le_of_ble_eq_true rfl) ?_
  refine ⟨fun h => absurd h (mg_nl0 (by omega)), fun _ => ?_⟩
  exact ⟨_, mg_Fs rfl rfl, _, mg_Fe hT.1.2.2.1 rfl rfl, fun _ => ⟨rfl, rfl, rfl⟩, fun h => absurd h (mg_nle hk (by omega))⟩
theorem c157x (d : Nat) (hT : cT G S) {f : Int32} (h : vi f (aV (sA S)) = none) : mg_m (mg_KC scr t) (d + 1) 157 [.ref 0, .int f] G (mg_x xI G) := by
  have h12 := hT.v8
  have hn := vi_n h (by omega)
  refine mg_me [] 60 my_157 ms_157 (Nat.le_of_ble_eq_true rfl) ?_
  refine ⟨fun _ => ⟨by decide, rfl, rfl, rfl⟩, fun h0 => ?_⟩
  exact ⟨_, mg_Fs rfl rfl, _, mg_Fe hT.1.2.2.1 rfl rfl, fun h => (hn.elim (fun q => absurd q (Int32.not_lt.mpr h0)) (fun q => absurd h (Int32.not_lt.mpr q))), fun _ => ⟨by decide, rfl, rfl, rfl⟩⟩
theorem c158y (d : Nat) (hT : cT G S) {f : Int32} {k : Nat} (h : vi f (aV (sA S)) = some k) : mg_m (mg_KC scr t) (d + 1) 158 [.ref 0, .int f] G (mg_n G) := by
  have h12 := hT.v8
  obtain ⟨rfl, hk⟩ := vi_s h
  refine mg_me [] 60 my_158 ms_158 (Nat.le_of_ble_eq_true rfl) ?_
  refine ⟨fun h => absurd h (mg_nl0 (by omega)), fun _ => ?_⟩
  exact ⟨_, mg_Fs rfl rfl, _, mg_Fe hT.1.2.2.1 rfl rfl, fun _ => ⟨rfl, rfl, rfl⟩, fun h => absurd h (mg_nle hk (by omega))⟩
theorem c158x (d : Nat) (hT : cT G S) {f : Int32} (h : vi f (aV (sA S)) = none) : mg_m (mg_KC scr t) (d + 1) 158 [.ref 0, .int f] G (mg_x xI G) := by
  have h12 := hT.v8
  have hn := vi_n h (by omega)
  refine mg_me [] 60 my_158 ms_158 (Nat.le_of_ble_eq_true rfl) ?_
  refine ⟨fun _ => ⟨by decide, rfl, rfl, rfl⟩, fun h0 => ?_⟩
  exact ⟨_, mg_Fs rfl rfl, _, mg_Fe hT.1.2.2.1 rfl rfl, fun h => (hn.elim (fun q => absurd q (Int32.not_lt.mpr h0)) (fun q => absurd h (Int32.not_lt.mpr q))), fun _ => ⟨by decide, rfl, rfl, rfl⟩⟩
theorem c161y (d : Nat) {f : Int32} {k : Nat} (h : vi f 6 = some k) : mg_m (mg_KC scr t) (d + 1) 161 [.ref 0, .int f] G (mg_n G) := by
  obtain ⟨rfl, hk⟩ := vi_s h
  refine mg_me [] 60 my_161 ms_161 (Nat.le_of_ble_eq_true rfl) ?_
  exact ⟨fun h => absurd h (mg_nl0 (by omega)), fun _ => ⟨fun _ => ⟨rfl, rfl, rfl⟩, fun h => absurd h (mg_nle (b := 6) hk (by omega))⟩⟩
theorem c161x (d : Nat) {f : Int32} (h : vi f 6 = none) : mg_m (mg_KC scr t) (d + 1) 161 [.ref 0, .int f] G (mg_x xA G) := by
  have hn := vi_n h (by decide)
  refine mg_me [] 60 my_161 ms_161 (Nat.le_of_ble_eq_true rfl) ?_
  refine ⟨fun _ => ⟨by decide, rfl, rfl, rfl⟩, fun h0 => ?_⟩
  exact ⟨fun h => (hn.elim (fun q => absurd q (Int32.not_lt.mpr h0)) (fun q => absurd h (Int32.not_lt.mpr q))), fun _ => ⟨by decide, rfl, rfl, rfl⟩⟩
theorem c162y (d : Nat) (hT : cT G S) (h : aF (sA S) < 12) : mg_m (mg_KC scr t) (d + 1) 162 [.ref 0] G (mg_n G) := by
  refine mg_me [] 60 my_162 ms_162 (Nat.le_of_ble_eq_true rfl) ?_
  exact ⟨_, mg_Fs rfl rfl, _, mg_Fe hT.1.2.1 rfl rfl, fun _ => ⟨rfl, rfl, rfl⟩, fun q => absurd q (mg_nle (b := 12) h (by decide))⟩
theorem c162x (d : Nat) (hT : cT G S) (h : aF (sA S) = 12) : mg_m (mg_KC scr t) (d + 1) 162 [.ref 0] G (mg_x xS G) := by
  refine mg_me [] 60 my_162 ms_162 (Nat.le_of_ble_eq_true rfl) ?_
  exact ⟨_, mg_Fs rfl rfl, _, mg_Fe hT.1.2.1 rfl rfl, fun q => absurd q (by rw [h]; decide), fun _ => ⟨by decide, rfl, rfl, rfl⟩⟩
/-- the drawing, made if it doesn't stand -/
theorem c165 (d : Nat) (hT : cT G S) : mg_m (mg_KC scr t) (d + 15) 165 [.ref 0] G (fun o q G' => o = .inl (some (.ref 122)) ∧ q = 0 ∧ cT G' S ∧ cDA G' (sA S) ∧ mg_fr (fun a => a = 0 ∨ kG 122 a) G G') := by
  have h8 := hT.v8
  have h12 := hT.f12
  have hW := hT.2.1
  rcases hT.2.2.2.2.2.2.2 with h0 | ⟨h1, hD⟩
  · refine mg_me [] 90 my_165 ms_165 (Nat.le_of_ble_eq_true rfl) ?_
    refine ⟨_, mg_Fe h0 rfl rfl, fun h => absurd rfl h, fun _ => ?_⟩
    refine ⟨_, mg_Fs rfl rfl, _, mg_Fs rfl rfl, Or.inr kc_d1.is, mg_m_mono (c1 d kc_d1 kc_s1 (Or.inl (by decide)) hT.1 hW) (by omega) ?_⟩
    rintro o q G1 ⟨rfl, rfl, hO, hF1⟩
    have hF1' : mg_fr (kG 122) G G1 := hF1.mono (fun a ha => by unfold kG; omega)
    have hS1 := hT.1.fr hF1' (fun a ha hb => by unfold kQ at ha; unfold kG at hb; omega)
    refine ⟨_, mg_Fs rfl rfl, _, mg_Fs rfl rfl, _, mg_Fs rfl rfl, _, mg_Fs rfl rfl, _, mg_Fe hS1.2.1 rfl rfl, Or.inr kc_d1.is, mg_m_mono (c2S d kc_d1 kc_s1 (Or.inl (by decide)) hS1 hW hW.2.1 hO) (by omega) ?_⟩
    rintro o q G2 ⟨rfl, rfl, hDr, hF2, hH⟩
    have hF2' : mg_fr (kG 122) G G2 := hF1'.tr (hF2.mono (fun a ha => by unfold kP at ha; unfold kG; omega))
    have hgr : cGr G2 122 (aV (sA S)) (aG (sA S)) := hDr.gr hH.2.2.1
    have hcl : aCl (aD (sA S)) (aV (sA S)) (aN (sA S)) := hDr.cl
    have nd : (aN (sA S)).Nodup := a_all_nd _ _ _ _
    have nl : a_zero ∉ aN (sA S) ∧ a_one ∉ aN (sA S) := a_all_nl _ _ _ _
    have hgw : gW (aV (sA S)) (aG (sA S)) := a_gr_W hW.o8 h8 nd nl hW.N hcl
    have hrt : ∀ f, f < aF (sA S) → G2.1 129 f = Int32.ofNat (aR (sA S) f) ∧ a_nd (aN (sA S)) (aR (sA S) f) (aT (sA S) f) := fun f hf => by
      obtain ⟨r, e1, e2⟩ := hDr.2.1 f hf
      have e3 : aR (sA S) f = r := a_nd_ix e2 nd nl
      rw [e3]
      exact ⟨e1, e2⟩
    refine ⟨_, mg_Fs rfl rfl, Or.inr kc_d1.is, mg_m_mono (c5 kc_d1 hgr hgw d (aF (sA S)) (aR (sA S)) hDr.2.2.2.2 h12 (fun f hf => ⟨(hrt f hf).1, a_nd_lt (hrt f hf).2⟩)) (by omega) ?_⟩
    rintro o q G3 ⟨rfl, rfl, f', rfl, hf'⟩
    have hF3 : mg_fr (fun a => a = 0 ∨ kG 122 a) G (mg_sF (gM G2 (122 + 6) f') 0 7 (.int (Int32.ofInt 1))) := ((hF2'.mono (fun a ha => Or.inr ha)).tr (mg_fr.u1 _ _ (Or.inr (by unfold kG; omega)))).tr (mg_fr.sF _ _ _ (Or.inl rfl))
    have hDA : cDA (mg_sF (gM G2 (122 + 6) f') 0 7 (.int (Int32.ofInt 1))) (sA S) := by
      have ne : ∀ b, b ≠ 128 → (gM G2 (122 + 6) f').1 b = G2.1 b := fun b hb => gM_ne G2 f' hb
      have nf : ∀ b k, b ≠ 0 → (mg_sF (gM G2 (122 + 6) f') 0 7 (.int (Int32.ofInt 1))).2.2.2.2 b k = G2.2.2.2.2 b k := fun b k hb => mg_sF_ne _ _ (fun q => hb q.1)
      obtain ⟨g1, g2, g3, g4, g5⟩ := hgr
      exact ⟨⟨(nf 122 12 (by decide)).trans g1, (nf 122 10 (by decide)).trans g2, fun k hk => (congrFun (ne 125 (by decide)) k).trans (g3 k hk), fun k hk => ⟨(congrFun (ne 126 (by decide)) k).trans (g4 k hk).1, (congrFun (ne 127 (by decide)) k).trans (g4 k hk).2⟩, fun k hk hk2 => ⟨(congrFun (ne 126 (by decide)) k).trans (g5 k hk hk2).1, (congrFun (ne 127 (by decide)) k).trans (g5 k hk hk2).2⟩⟩, hgw, hcl, fun f hf => ⟨(congrFun (ne 129 (by decide)) f).trans (hrt f hf).1, (hrt f hf).2⟩, fun j hj => (congrFun (ne 130 (by decide)) j).trans (hH.2.2.2.1 j hj), fun y hy r hr => by rw [show (mg_sF (gM G2 (122 + 6) f') 0 7 (.int (Int32.ofInt 1))).1 128 y = f' y from gM_at G2 128 f' y]; exact hf' y hy r hr, (nf 122 9 (by decide)).trans hDr.2.2.2.2⟩
    refine ⟨rfl, _, rfl, rfl, _, mg_Fs rfl rfl, rfl, rfl, hT.fr (hF3.mono (fun a ha => ha.elim (fun e => Or.inl e) (fun q => Or.inr (Or.inl q)))) (Or.inr ⟨mg_sF_at _ _ _ _, hDA⟩), hDA, hF3⟩
  · refine mg_me [] 90 my_165 ms_165 (Nat.le_of_ble_eq_true rfl) ?_
    exact ⟨_, mg_Fe h1 rfl rfl, fun _ => ⟨_, mg_Fs rfl rfl, rfl, rfl, hT, hD, mg_fr.rf _ _⟩, fun h => absurd h (by decide)⟩
theorem fr0 {G G' : mg_G} (h : mg_fr (fun a => a = 0 ∨ kG 122 a) G G') : cFr148 G G' := h.mono (fun a ha => by unfold kG at ha; show a < 148; omega)
end KC
