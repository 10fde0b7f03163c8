/-! THE START: behind the reference's constructor -/
def rG0 (G : mg_G) : Prop := (∀ v, v < 6 → G.2.1 154 v = a_m v) ∧ G.2.2.2.2 148 3 = .int 0 ∧ (∀ s, s < 2 → G.1 151 s = 0) ∧ G.2.2.2.2 148 9 = .int 0
theorem rG0.B9 {G : mg_G} (h : rG0 G) : rB9 G [] (fun _ => none) [] := ⟨h.1, ⟨h.2.1, Nat.zero_le _, fun i B hi => by cases hi⟩, fun s hs => ⟨h.2.2.1 s hs, fun B hB => by cases hB⟩, ⟨h.2.2.2, Nat.zero_le _, fun i c hi => by cases hi⟩⟩
theorem kz_i : ∀ i, i < 45 → Int32.ofNat ((k_str 38).getD i 0) = Int32.ofNat ((k_str 0).getD i 0) ∧ (k_str 0).getD i 0 < 256 := by decide
theorem kz_l38 : (k_str 38).length = 45 := by decide
section RM
variable {scr : Nat × (Nat → Int32)} {t : List mg_S} {G : mg_G}
theorem s175l (d : Nat) {Q : mg_Q} {G0 : mg_G} (hk : ∀ G', (∀ j, j < 45 → G'.1 152 j = Int32.ofNat ((k_str 0).getD j 0)) → (∀ b, b ≠ 152 → G'.1 b = G0.1 b) → G'.2 = G0.2 → mg_wp (mg_KM scr t) mc_175 (d + 5) 313 [some (.ref 148), some (.ref 2000038), some (.int (Int32.ofNat 45))] [] G' Q) : ∀ (n i : Nat) (G : mg_G), i + n = 45 → (∀ j, j < i → G.1 152 j = Int32.ofNat ((k_str 0).getD j 0)) → (∀ b, b ≠ 152 → G.1 b = G0.1 b) → G.2 = G0.2 → mg_wp (mg_KM scr t) mc_175 (d + 5) 288 [some (.ref 148), some (.ref 2000038), some (.int (Int32.ofNat i))] [] G Q := by
  intro n
  induction n with
  | zero =>
    intro i G hi h1 h2 h3
    obtain rfl : i = 45 := by omega
    refine mg_go [313] 30 288 ms_175 ?_
    refine ⟨Or.inr (jzr (Or.inr rfl) _), mg_cv (jz331 d (Or.inr rfl)) (by omega) ?_⟩
    refine ⟨fun _ => ?_, fun z => absurd z (by rw [kz_l38]; decide)⟩
    exact hk G h1 h2 h3
  | succ n ih =>
    intro i G hi h1 h2 h3
    have hi2 : i < 45 := by omega
    refine mg_go [288, 313] 30 288 ms_175 ?_
    refine ⟨Or.inr (jzr (Or.inr rfl) _), mg_cv (jz331 d (Or.inr rfl)) (by omega) ?_⟩
    refine ⟨fun z => absurd z (by rw [kz_l38]; exact mg_nle hi2 (by omega)), fun _ => ?_⟩
    repeat (first | refine ⟨_, mg_Fs rfl rfl, ?_⟩ | refine ⟨Or.inl rfl, ?_⟩ | refine ⟨Or.inr ⟨_, rfl⟩, ?_⟩ | refine ⟨fun _ => ?_, fun h => absurd h (by decide)⟩ | refine ⟨fun h => absurd h (by decide), fun _ => ?_⟩)
    refine ⟨Or.inr (jzr (Or.inr rfl) _), mg_cv (jz332 d (Or.inr rfl) (i := i) (by rw [kz_l38]; exact hi2)) (by omega) ?_⟩
    refine ⟨600, i, rfl, mg_ixN (by omega), by omega, ?_⟩
    have e := ih (i + 1) (mg_sI G 152 i (Int32.ofNat ((k_str 38).getD i 0))) (by omega) (fun j hj => by
      by_cases q : j = i
      · subst q
        rw [mg_sI_eq]
        exact (kz_i j hi2).1
      · rw [mg_sI_ne _ _ _ _ q]
        exact h1 j (by omega)) (fun b hb => (mg_sI_nb _ _ _ hb).trans (h2 b hb)) h3
    rw [← mg_inc i] at e
    exact e
theorem s175 (d : Nat) {x : a_A × Nat} (hx : tY (k_str 0) = .inr x) (h : rG0 G) : mg_wp (mg_KM scr t) mc_175 (d + 900) 283 [some (.ref 148), none, none] [] G (fun o q G' => o = .inl none ∧ q = 0 ∧ rT G' (s_0 x.1) ∧ rF G G') := by
  refine mg_go [288] 30 283 ms_175 ?_
  refine s175l (d + 895) (G0 := G) (fun G1 g1 g2 g3 => ?_) 45 0 G rfl (fun j hj => absurd hj (Nat.not_lt_zero _)) (fun _ _ => rfl) rfl
  have hF1 : rF G G1 := fun b hb => ⟨g2 b (by omega), by rw [g3], by rw [g3], by rw [g3], by rw [g3]⟩
  have h1 : rG0 G1 := ⟨fun v hv => by rw [g3]; exact h.1 v hv, by rw [g3]; exact h.2.1, fun s hs => by rw [g2 151 (by decide)]; exact h.2.2.1 s hs, by rw [g3]; exact h.2.2.2⟩
  refine mg_go [] 60 313 ms_175 ?_
  refine ⟨Or.inr (jzr (Or.inr rfl) _), mg_cv (jz331 d (Or.inr rfl)) (by omega) ?_⟩
  refine ⟨rfl, _, rfl, rfl, ?_⟩
  have hB2 := h1.B9.s 5 (.int (Int32.ofNat (k_str 38).length)) (by decide) (by decide)
  have hN2 : rIn (mg_sF G1 148 5 (.int (Int32.ofNat (k_str 38).length))) (k_str 0) := ⟨(mg_sF_at _ _ _ _).trans (by rw [kz_38]), by rw [kz_len]; decide, fun i c hi => by
    have hi2 : i < 45 := kz_len ▸ (List.getElem?_eq_some_iff.mp hi).1
    have e : (k_str 0).getD i 0 = c := by rw [List.getD_eq_getElem?_getD, hi]; rfl
    exact ⟨(g1 i hi2).trans (by rw [e]), e ▸ (kz_i i hi2).2⟩⟩
  repeat (first | refine ⟨_, mg_Fs rfl rfl, ?_⟩ | refine ⟨Or.inl rfl, ?_⟩ | refine ⟨Or.inr ⟨_, rfl⟩, ?_⟩ | refine ⟨fun _ => ?_, fun h => absurd h (by decide)⟩ | refine ⟨fun h => absurd h (by decide), fun _ => ?_⟩)
  refine mg_m_mono (r211 d hN2) (by omega) ?_
  rintro o q G2 ⟨rfl, rfl, f2, hN3, hk2, h62, h72, e1, e2⟩
  repeat (first | refine ⟨_, mg_Fs rfl rfl, ?_⟩ | refine ⟨Or.inl rfl, ?_⟩ | refine ⟨Or.inr ⟨_, rfl⟩, ?_⟩ | refine ⟨fun _ => ?_, fun h => absurd h (by decide)⟩ | refine ⟨fun h => absurd h (by decide), fun _ => ?_⟩)
  refine mg_m_mono (r244 d (hB2.t f2).1 hN3 hk2 (r := .inr x) hx.symm) (by omega) ?_
  rintro o q G3 ⟨rfl, f3, rfl, hI3, h6, h7⟩
  repeat (first | refine ⟨_, mg_Fs rfl rfl, ?_⟩ | refine ⟨Or.inl rfl, ?_⟩ | refine ⟨Or.inr ⟨_, rfl⟩, ?_⟩ | refine ⟨fun _ => ?_, fun h => absurd h (by decide)⟩ | refine ⟨fun h => absurd h (by decide), fun _ => ?_⟩)
  refine ⟨rfl, _, rfl, rfl, ?_⟩
  have f4 := f2.tr f3
  have hB4 := (hB2.t f4).s 5 (.int 0) (by decide) (by decide)
  have hT := hB4.T (A := x.1) (bS.sF (show bS G3 0 x.1 from ⟨hI3.2.1, hI3.2.2⟩) 148 5 (.int 0)) (l := []) (rIn.n0 (mg_sF_at _ _ _ _)) (c := 0) (q := Int32.ofInt (-1)) ((mg_sF_ne _ _ (by decide)).trans (h6.trans h62)) ((mg_sF_ne _ _ (by decide)).trans (h7.trans h72))
  exact ⟨rfl, rfl, hT, ((hF1.tr (rF.s _ _ _)).tr f4.F).tr (rF.s _ _ _)⟩
end RM
