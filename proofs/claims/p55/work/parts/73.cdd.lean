def cO (G : mg_G) (g : Nat) (ord : Nat → Nat) (nv : Nat) : Prop := G.2.2.2.2 g 10 = .int (Int32.ofNat nv) ∧ ∀ j, j < nv → G.1 (g + 8) j = Int32.ofNat (ord j)
/-- rows f0, f0 + 1, .. of bits b hold the tables tb -/
def cTb (G : mg_G) (b f0 nf n : Nat) (tb : Nat → a_T) : Prop := ∀ f, f < nf → cRow G b (f0 + f) n (tb f)
theorem cTb.fr {G G' : mg_G} {b f0 nf n : Nat} {tb : Nat → a_T} {p : Nat → Prop} (h : cTb G b f0 nf n tb) (hf : mg_fr p G G') (hb : ¬ p b) : cTb G' b f0 nf n tb := fun f h1 w h2 => (congrFun (hf b hb).2.1 _).trans (h f h1 w h2)
theorem a_all_nl (ord : Nat → Nat) (nv : Nat) (tb : Nat → a_T) : ∀ f, a_zero ∉ a_all ord nv tb f ∧ a_one ∉ a_all ord nv tb f
  | 0 => ⟨List.not_mem_nil, List.not_mem_nil⟩
  | f + 1 => a_vis_nl ord nv _ _ _ (a_all_nl ord nv tb f)
theorem a_all_per (ord : Nat → Nat) (nv nf : Nat) (tb : Nat → a_T) (hO : aO ord nv) (hp : ∀ f, f < nf → a_per nv (tb f)) : ∀ f, f ≤ nf → ∀ U, U ∈ a_all ord nv tb f → a_per nv U
  | 0, _ => fun U h => absurd h List.not_mem_nil
  | f + 1, hf => a_vis_per ord nv (fun j hj => by have := hO.1 j hj; have := hO.2.2.2; omega) _ _ _ (hp f (by omega)) hO.2.1 (a_all_per ord nv nf tb hO hp f (by omega))
section CD
variable {K : mg_K} {g : Nat}
theorem cDr_s {G G2 : mg_G} {ord : Nat → Nat} {nv nf n f r : Nat} {tb : Nat → a_T} (h : cDr G g ord nv nf n tb f) (hnd : a_nd (a_all ord nv tb (f + 1)) r (tb f)) (hN : cN G2 g n (a_us (a_all ord nv tb (f + 1)))) (hF : cFr g ((a_all ord nv tb f).length + 2) G G2) (hC : ∀ i, (a_all ord nv tb f).length ≤ i → i < (a_all ord nv tb (f + 1)).length → cC G2 g ord nv (a_all ord nv tb (f + 1)) i) : cDr (mg_sI G2 (g + 7) f (Int32.ofNat r)) g ord nv nf n tb (f + 1) := by
  obtain ⟨h1, h2, h3, h4, h5⟩ := h
  have ne : ∀ b i, b ≠ g + 7 → (mg_sI G2 (g + 7) f (Int32.ofNat r)).1 b i = G2.1 b i := fun b i hb => congrFun (mg_u2_ne _ _ _ hb) i
  obtain ⟨s, hs⟩ := a_vis_pre ord nv (nv + 1) (tb f) (a_all ord nv tb f)
  have hs : a_all ord nv tb (f + 1) = a_all ord nv tb f ++ s := hs
  refine ⟨?_, fun q hq => ?_, fun i hi => ?_, fun i hi => ?_, (hF.2.2.2.2.2.2 g 9 (by omega)).trans h5⟩
  · obtain ⟨g1, g2, sl, g3, g4⟩ := hN
    exact ⟨g1, g2, sl, fun q hq => (ne (g + 9) q (by omega)).trans (g3 q hq), g4⟩
  · rcases Nat.lt_or_eq_of_le (Nat.le_of_lt_succ hq) with h9 | rfl
    · obtain ⟨r9, e1, e2⟩ := h2 q h9
      refine ⟨r9, ?_, ?_⟩
      · rw [mg_sI_ne _ _ _ _ (by omega)]
        exact (congrFun (hF.1 (g + 7) (by omega) (by omega) (by omega) (by omega)) q).trans e1
      · rw [hs]
        exact a_nd_app e2
    · exact ⟨r, mg_sI_eq _ _ _ _, hnd⟩
  · by_cases hl : i < (a_all ord nv tb f).length
    · have h9 := h3 i hl
      rw [hs]
      exact h9.up ((ne (g + 3) _ (by omega)).trans (hF.2.1 (g + 3) _ (by omega) (by omega))) ((ne (g + 4) _ (by omega)).trans (hF.2.1 (g + 4) _ (by omega) (by omega))) ((ne (g + 5) _ (by omega)).trans (hF.2.1 (g + 5) _ (by omega) (by omega)))
    · have h9 := (hC i (by omega) hi).up (G' := mg_sI G2 (g + 7) f (Int32.ofNat r)) (s := []) (ne (g + 3) _ (by omega)) (ne (g + 4) _ (by omega)) (ne (g + 5) _ (by omega))
      rw [List.append_nil] at h9
      exact h9
  · obtain ⟨e1, e2, e3⟩ := h4 i hi
    exact ⟨(ne _ _ (by omega)).trans ((hF.2.1 _ _ (by omega) (by omega)).trans e1), (ne _ _ (by omega)).trans ((hF.2.1 _ _ (by omega) (by omega)).trans e2), (ne _ _ (by omega)).trans ((hF.2.1 _ _ (by omega) (by omega)).trans e3)⟩
/-- what is given of the source of a drawing -/
def cSrc (K : mg_K) (G : mg_G) (g a2 b2 N2 : Nat) (ord : Nat → Nat) (nv n nf f0 : Nat) (tb : Nat → a_T) : Prop := kT K a2 b2 N2 ∧ ¬ kP g b2 ∧ ¬ kP g a2 ∧ aO ord nv ∧ n = a_wds nv ∧ nf ≤ 12 ∧ 4 * (f0 + nf) ≤ N2 ∧ cTb G b2 f0 nf n tb ∧ (∀ f, f < nf → a_per nv (tb f))
theorem c2_b (d : Nat) (H : kD K g) {a2 b2 N2 : Nat} {G : mg_G} {ord : Nat → Nat} {nv n nf f0 : Nat} {tb : Nat → a_T} (S : cSrc K G g a2 b2 N2 ord nv n nf f0 tb) {G' : mg_G} (hD : cDr G' g ord nv nf n tb 0) (hH : cH G' g ord nv n) (hF : mg_fr (kP g) G G') :
    mg_wp K mc_2 (d + nv + 4) 68 [some (.ref g), some (.ref a2), some (.int (Int32.ofNat f0)), some (.int (Int32.ofNat nf)), some (.int (Int32.ofNat 0))] [] G' (fun o k G' => k = 0 ∧ o = .inl (some (.int (Int32.ofNat (a_all ord nv tb nf).length))) ∧ cDr G' g ord nv nf n tb nf ∧ mg_fr (kP g) G G' ∧ cH G' g ord nv n) := by
  obtain ⟨H2, hb2, ha2, hO, hen, h12, hN2, hT, hp⟩ := S
  have h8 := hO.2.2.2
  have hN2b := H2.2.2.2
  have hn : n ≤ 4 := by have := (a_wds_i nv h8).1; omega
  refine mg_loop nf (fun f L G' => L = [some (.ref g), some (.ref a2), some (.int (Int32.ofNat f0)), some (.int (Int32.ofNat nf)), some (.int (Int32.ofNat f))] ∧ cDr G' g ord nv nf n tb f ∧ cH G' g ord nv n ∧ mg_fr (kP g) G G') ?_ ?_ _ _ ⟨rfl, hD, hH, hF⟩
  · rintro f L G' hf ⟨rfl, hD, hH, hF⟩ ih
    have hlen := a_all_626 (tb := tb) (nf := f) hO (by omega) (fun q hq => hp q (by omega))
    have hlen1 := a_all_626 (tb := tb) (nf := f + 1) hO (by omega) (fun q hq => hp q (by omega))
    have hNn : G'.2.2.2.2 g 12 = .int (Int32.ofNat ((a_all ord nv tb f).length + 2)) := hD.1.1
    have hcp := c81 (K := K) (a := g + 1) (b := g + 2) (G := G') (n := n) (d + nv + 2) ((a_all ord nv tb f).length + 2) (f0 + f) a2 b2 N2 H.T H2 hH.1 hn (by omega) (by omega)
    rw [Int32.ofNat_add f0 f] at hcp
    have hg : (fun w => G'.2.1 b2 (4 * (f0 + f) + w)) = (fun w => G.2.1 b2 (4 * (f0 + f) + w)) := funext fun w => congrFun (hF b2 hb2).2.1 _
    rw [hg, cW_g _ _ _ _ _ (a_wd (tb f)) (fun w hw => hT f hf w hw)] at hcp
    have hF1 : cFr g ((a_all ord nv tb f).length + 2) G' (cW G' (g + 2) ((a_all ord nv tb f).length + 2) n (a_wd (tb f))) := cFr.w (Nat.le_refl _)
    have hN1 : cN (cW G' (g + 2) ((a_all ord nv tb f).length + 2) n (a_wd (tb f))) g n (a_us (a_all ord nv tb f)) := hD.1.w (Nat.le_refl _) hn
    have hv := c3 H ord nv n (nv + 1) d (tb f) 0 _ _ (hH.fr hF1) hN1 (a_all_nd ord nv tb f) (a_all_nl ord nv tb f) (a_all_per ord nv nf tb hO hp f (by omega)) (hp f hf) cRow.at (by omega) (Nat.zero_le _) (fun j hj => absurd hj (Nat.not_lt_zero _)) hlen1
    refine mg_go [68] 60 68 ms_2 ?_
    refine ⟨fun h => absurd h (mg_nle hf (by omega)), fun _ => ⟨_, H.t, _, H.no hNn, Or.inr H.T.is, mg_cn hcp (by omega) ?_⟩⟩
    refine ⟨_, H.ro, Or.inr H.is, mg_m_mono hv (by omega) ?_⟩
    rintro o k G2 ⟨rfl, r, rfl, hnd, hN, hF2, hC⟩
    have hF3 := hF1.tr hF2 (Nat.le_refl _)
    refine ⟨12, f, H.s7, mg_ixN (by omega), by omega, ih _ _ ⟨by rw [← mg_inc f], cDr_s hD hnd hN hF3 hC, ?_, (hF.tr hF3.fr).tr (mg_fr.sI _ _ _ (by unfold kP; omega))⟩⟩
    obtain ⟨q1, q2, q3, q4, q5⟩ := hH.fr hF3
    exact ⟨q1, q2, q3, fun j hj => (congrFun (mg_u2_ne _ _ _ (by omega)) j).trans (q4 j hj), q5⟩
  · rintro L G' ⟨rfl, hD, hH, hF⟩
    refine mg_go [68] 60 68 ms_2 ?_
    refine ⟨fun _ => ⟨Or.inr H.is, mg_cv (c7 (d + nv + 3) H hD.1.1) (by omega) ?_⟩, fun h => absurd h (Int32.not_lt.mpr (Int32.le_refl _))⟩
    exact ⟨Or.inl rfl, rfl, rfl, hD, hF, hH⟩
theorem cW_row {G : mg_G} {b r n : Nat} {f : Nat → Int64} {T : a_T} (h : ∀ w, w < n → f w = a_wd T w) : cRow (cW G b r n f) b r n T := fun w hw => (cW_in _ _ _ _ _ _ hw).trans (h w hw)
theorem c2_a (d : Nat) (H : kD K g) {a2 b2 N2 : Nat} {G : mg_G} {ord : Nat → Nat} {nv n nf f0 : Nat} {tb : Nat → a_T} (S : cSrc K G g a2 b2 N2 ord nv n nf f0 tb) {G' : mg_G} (hN : cN G' g n []) (hH : cH G' g ord nv n) (hF : mg_fr (kP g) G G') (e4 : Option Value) :
    mg_wp K mc_2 (d + nv + 4) 24 [some (.ref g), some (.ref a2), some (.int (Int32.ofNat f0)), some (.int (Int32.ofNat nf)), e4] [] G' (fun o k G' => k = 0 ∧ o = .inl (some (.int (Int32.ofNat (a_all ord nv tb nf).length))) ∧ cDr G' g ord nv nf n tb nf ∧ mg_fr (kP g) G G' ∧ cH G' g ord nv n) := by
  have h8 := S.2.2.2.1.2.2.2
  have hn := hH.n
  have hpw : ∀ U, a_per nv U → a_pw U n := fun U hU => by rw [S.2.2.2.2.1]; exact a_per_pw hU h8
  have w0 : ∀ w, w < n → (fun _ : Nat => if (Int32.ofInt 0) = 0 then (0 : Int64) else -1) w = a_wd a_zero w := fun w hw => by
    rcases (show w = 0 ∨ w = 1 ∨ w = 2 ∨ w = 3 by omega) with rfl | rfl | rfl | rfl <;> rfl
  have w1 : ∀ w, w < n → (fun _ : Nat => if (Int32.ofInt 1) = 0 then (0 : Int64) else -1) w = a_wd a_one w := fun w hw => by
    rcases (show w = 0 ∨ w = 1 ∨ w = 2 ∨ w = 3 by omega) with rfl | rfl | rfl | rfl <;> rfl
  have f0' := c79 (K := K) (a := g + 1) (b := g + 2) (N := 2516) (G := G') (n := n) (d + nv + 3) 0 H.T (Int32.ofInt 0) hH.1 (by omega)
  have hF1 : cFr g 0 G' (cW G' (g + 2) 0 n (fun _ => if (Int32.ofInt 0) = 0 then (0 : Int64) else -1)) := cFr.w (Nat.le_refl _)
  have hN1 : cN (cW G' (g + 2) 0 n (fun _ => if (Int32.ofInt 0) = 0 then (0 : Int64) else -1)) g n [] := hN.w (Nat.le_refl _) (by omega)
  have v0 := c3_leaf (d + nv) H (hH.fr hF1) hN1 List.nodup_nil (by decide) (fun U hU => absurd hU List.not_mem_nil) (hpw _ (a_per_0 nv)) List.not_mem_nil (cW_row w0)
  generalize cW G' (g + 2) 0 n (fun _ => if (Int32.ofInt 0) = 0 then (0 : Int64) else -1) = G1 at f0' hF1 hN1 v0
  have hH1 := hH.fr hF1
  refine mg_go [68] 60 24 ms_2 ?_
  refine ⟨_, H.t, Or.inr H.T.is, mg_cn f0' (by omega) ?_⟩
  refine ⟨_, H.nv hH1.2.2.1, Or.inr H.is, mg_m_mono v0 (by omega) ?_⟩
  rintro o k G2 ⟨rfl, rfl, hN2, hF2, x1, x2, x3⟩
  have hH2 := hH1.fr hF2
  have f1' := c79 (K := K) (a := g + 1) (b := g + 2) (N := 2516) (G := G2) (n := n) (d + nv + 3) 1 H.T (Int32.ofInt 1) hH2.1 (by omega)
  have hF3 : cFr g 1 G2 (cW G2 (g + 2) 1 n (fun _ => if (Int32.ofInt 1) = 0 then (0 : Int64) else -1)) := cFr.w (Nat.le_refl _)
  have hN3 : cN (cW G2 (g + 2) 1 n (fun _ => if (Int32.ofInt 1) = 0 then (0 : Int64) else -1)) g n [a_zero] := hN2.w (Nat.le_refl _) (by omega)
  have v1 := c3_leaf (d + nv) H (hH2.fr hF3) hN3 ((List.nodup_cons.mpr ⟨List.not_mem_nil, List.nodup_nil⟩)) (by decide) (fun U hU => by rw [List.mem_singleton.mp hU]; exact hpw _ (a_per_0 nv)) (hpw _ (a_per_1 nv)) (fun q => a_z1 (List.mem_singleton.mp q).symm) (cW_row w1)
  generalize cW G2 (g + 2) 1 n (fun _ => if (Int32.ofInt 1) = 0 then (0 : Int64) else -1) = G3 at f1' hF3 hN3 v1
  have hH3 := hH2.fr hF3
  refine ⟨_, H.t, Or.inr H.T.is, mg_cn f1' (by omega) ?_⟩
  refine ⟨_, H.nv hH3.2.2.1, Or.inr H.is, mg_m_mono v1 (by omega) ?_⟩
  rintro o k G4 ⟨rfl, rfl, hN4, hF4, y1, y2, y3⟩
  have hF34 := hF3.tr hF4 (Nat.le_refl _)
  have hH4 := hH3.fr hF4
  refine ⟨rfl, _, H.1, rfl, ?_⟩
  have ne : ∀ b k, ¬ (b = g ∧ k = 9) → (mg_sF G4 g 9 (.int (Int32.ofNat nf))).2.2.2.2 b k = G4.2.2.2.2 b k := fun b k h => by
    show mg_u2 G4.2.2.2.2 g 9 _ b k = _
    rw [mg_u2_at, if_neg h]
  have hF' : mg_fr (kP g) G (mg_sF G4 g 9 (.int (Int32.ofNat nf))) := ((hF.tr hF1.fr).tr (hF2.fr.tr hF34.fr)).tr (mg_fr.sF _ _ _ (by unfold kP; omega))
  refine c2_b d H S (G' := mg_sF G4 g 9 (.int (Int32.ofNat nf))) ⟨?_, fun q hq => absurd hq (Nat.not_lt_zero _), fun i hi => absurd hi (Nat.not_lt_zero _), fun i hi => ?_, ?_⟩ ?_ hF'
  · exact ⟨(ne g 12 (by omega)).trans hN4.1, hN4.2⟩
  · rcases (show i = 0 ∨ i = 1 by omega) with rfl | rfl
    · exact ⟨(hF34.2.1 _ _ (by omega) (by decide)).trans x1, (hF34.2.1 _ _ (by omega) (by decide)).trans x2, (hF34.2.1 _ _ (by omega) (by decide)).trans x3⟩
    · exact ⟨y1, y2, y3⟩
  · show mg_u2 G4.2.2.2.2 g 9 _ g 9 = _
    rw [mg_u2_at, if_pos ⟨rfl, rfl⟩]
  · exact ⟨(ne _ _ (by omega)).trans hH4.1, hH4.2.1, (ne _ _ (by omega)).trans hH4.2.2.1, hH4.2.2.2⟩
theorem c2 (d : Nat) (H : kD K g) {a2 b2 N2 : Nat} {G : mg_G} {ord : Nat → Nat} {nv n nf f0 : Nat} {tb : Nat → a_T} (S : cSrc K G g a2 b2 N2 ord nv n nf f0 tb) (hG : cO G g ord nv) (hw : G.2.2.2.2 a2 1 = .int (Int32.ofNat n)) :
    mg_m K (d + nv + 5) 2 [.ref g, .ref a2, .int (Int32.ofNat f0), .int (Int32.ofNat nf)] G (fun o k G' => k = 0 ∧ o = .inl (some (.int (Int32.ofNat (a_all ord nv tb nf).length))) ∧ cDr G' g ord nv nf n tb nf ∧ mg_fr (kP g) G G' ∧ cH G' g ord nv n) := by
  have kp : ∀ a, a = g ∨ a = g + 1 ∨ a = g + 2 ∨ a = g + 3 ∨ a = g + 4 ∨ a = g + 5 ∨ a = g + 7 ∨ a = g + 9 → kP g a := fun a ha => by unfold kP; omega
  refine mg_me [24] 60 my_2 ms_2 (Nat.le_of_ble_eq_true rfl) ?_
  refine ⟨_, H.t, _, S.1.w hw, rfl, _, H.T.1, rfl, ?_⟩
  refine ⟨_, H.sl, Or.inl rfl, mg_cn (c341 0 (g + 9) 1024 _ _ H.s9 (by have := H.2.2.2.2.2.2.2.2.2.2; omega) (by decide)) (by omega) ?_⟩
  refine ⟨rfl, _, H.1, rfl, ?_⟩
  refine c2_a d H S ⟨?_, fun i T h => by simp at h, fun _ => 0, fun q hq => ?_, a_hs_nil⟩ ⟨?_, S.2.2.2.2.1, ?_, fun j hj => ?_, S.2.2.2.1⟩ ?_ _
  · exact (mg_u2_at _ _ _ _ _ _).trans (if_pos ⟨rfl, rfl⟩)
  · show mg_u G.1 (g + 9) (fun i => if i < 1024 then Int32.ofInt 0 else G.1 (g + 9) i) (g + 9) q = _
    rw [mg_u_eq, if_pos hq]
    rfl
  · exact (mg_u2_at _ _ _ _ _ _).trans ((if_neg (by omega)).trans ((mg_u2_at _ _ _ _ _ _).trans (if_pos ⟨rfl, rfl⟩)))
  · exact (mg_u2_at _ _ _ _ _ _).trans ((if_neg (by omega)).trans ((mg_u2_at _ _ _ _ _ _).trans ((if_neg (by omega)).trans hG.1)))
  · exact (congrFun (mg_u_ne _ _ (by omega)) j).trans (hG.2 j hj)
  · exact ((mg_fr.sF G 1 _ (kp _ (by omega))).tr (mg_fr.u1 _ _ (kp _ (by omega)))).tr (mg_fr.sF _ 12 _ (kp _ (by omega)))
end CD
