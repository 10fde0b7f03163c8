/-! THE LAW: all of it -/
theorem gy_all : ∀ r, r < 3 → ∀ k, k < 3 → gy_1 (3 + r) k = true ∧ gy_2 (3 + r) k (gz_T 148 (gy_e (3 + r) k)) = true ∧ gy_3 (3 + r) k (gz_T 148 (gy_e (3 + r) k)) = true ∧ gy_4 (3 + r) k = true := by
  intro r hr k hk
  rcases (show r = 0 ∨ r = 1 ∨ r = 2 by omega) with rfl | rfl | rfl <;> rcases (show k = 0 ∨ k = 1 ∨ k = 2 by omega) with rfl | rfl | rfl
  · exact ⟨gy_3_0_1, gy_3_0_2, gy_3_0_3, gy_3_0_4⟩
  · exact ⟨gy_3_1_1, gy_3_1_2, gy_3_1_3, gy_3_1_4⟩
  · exact ⟨gy_3_2_1, gy_3_2_2, gy_3_2_3, gy_3_2_4⟩
  · exact ⟨gy_4_0_1, gy_4_0_2, gy_4_0_3, gy_4_0_4⟩
  · exact ⟨gy_4_1_1, gy_4_1_2, gy_4_1_3, gy_4_1_4⟩
  · exact ⟨gy_4_2_1, gy_4_2_2, gy_4_2_3, gy_4_2_4⟩
  · exact ⟨gy_5_0_1, gy_5_0_2, gy_5_0_3, gy_5_0_4⟩
  · exact ⟨gy_5_1_1, gy_5_1_2, gy_5_1_3, gy_5_1_4⟩
  · exact ⟨gy_5_2_1, gy_5_2_2, gy_5_2_3, gy_5_2_4⟩
def gx_7 : Option mm_N := gz_e mc_law 12 20 7 [some (.ref 1000002), none, none, none, none, none, none, none] [.ref 0] 148 [] (true, 148, 23825)
def gx_15 (r : Nat) : Option mm_N := gz_e mc_law 20 20 15 [some (.ref 1000002), some (.ref 0), none, none, none, none, none, none] [.int (Int32.ofNat r), .int (Int32.ofInt 3)] 148 [] (true, 148, 23825)
theorem gx_7s : gz_s 12 [some (.ref 1000002), some (.ref 0), none, none, none, none, none, none] [.int (Int32.ofNat 3), .int (Int32.ofNat 0), .ref 1000002, .int (Int32.ofInt 3)] (true, 148, 23825) gx_7 = true := by decide +kernel
theorem gx_7t : (gz_T 148 gx_7).length = 0 := by decide +kernel
theorem gx_15s : ∀ r, r < 3 → gz_s 20 [some (.ref 1000002), some (.ref 0), some (.int (Int32.ofNat (3 + r))), none, none, none, none, none] [.int (Int32.ofNat 3), .int (Int32.ofNat 1), .ref 1000002] (true, 148, 23825) (gx_15 r) = true := by decide +kernel
theorem gx_15t : ∀ r, r < 3 → (gz_T 148 (gx_15 r)).length = 0 := by decide +kernel
section LW
variable {L : Nat} {xs : Nat → Int32}
def lwZ (r : mm_R) : Prop := r.1 = .inl (some (.int 1)) ∧ r.2.2.2.1 ≤ 600086 ∧ r.2.2.2.2 ≤ 7301442
def lwQ : mg_Q := fun o k _ => o = .inl (some (.int 1)) ∧ k ≤ 68000
theorem sLd_y {S : a_S} {l : List Nat} {x : a_A × Nat} (h : tY l = .inr x) : p245 (sInS S l) = ((x.1, [], fun _ => none, [], 0, Int32.ofInt (-1), sW S), (0, Int32.ofNat (aF x.1))) := by
  show sLd (sInS S l) (tY l) = _
  rw [h]
  rfl
theorem lwz_65 (hL : L ≤ 260) {n k : Nat} (hn : tt_n n) (h1 : gz_k (shT n ++ shS (gy_c n k) (gy_t n k).length) (gz_T 148 (gy_e n k)) = true) (h2 : gy_2 n k (gz_T 148 (gy_e n k)) = true) (h3 : gy_3 n k (gz_T 148 (gy_e n k)) = true) (h4 : gy_4 n k = true) {G : mg_G} {x : a_A × Nat} (hc : cT G (s_0 x.1)) : mg_wp ((L, xs), shC ++ (shT n ++ shS (gy_c n k) (gy_t n k).length)) mc_law 1200 65 [some (.ref 1000002), some (.ref 0), some (.int (Int32.ofNat n)), some (.int (Int32.ofNat k)), some (.ref 148), none, none, none] [.ref 155, .ref 0] (gz_G G 148 (gz_T 148 (gy_e n k))) lwQ := by
  simp only [gy_2, Bool.and_eq_true, decide_eq_true_eq, List.all_eq_true, List.mem_range] at h2
  obtain ⟨⟨c1, c2⟩, c3⟩ := h2
  simp only [gy_4, Bool.and_eq_true, decide_eq_true_eq, List.all_eq_true, List.mem_range] at h4
  obtain ⟨⟨⟨⟨d1, d2⟩, d3⟩, d4⟩, d5⟩ := h4
  have hJ : sy_ok (gy_t n k) (gy_J n k) := ⟨d1, d2, d3, d4, d5⟩
  obtain ⟨y, hy, y1, y2, y3⟩ : ∃ y, tY (gy_t n k) = .inr y ∧ aV y.1 = n ∧ aF y.1 = 3 ∧ ∀ f, f < 3 → gz_J (gz_T 148 (gy_e n k))[1]? f = tt n (aT y.1 f) := by
    unfold gy_3 at h3
    split at h3
    · cases h3
    · rename_i y e
      simp only [Bool.and_eq_true, decide_eq_true_eq, List.all_eq_true, List.mem_range] at h3
      exact ⟨y, e, h3.1.1, h3.1.2, h3.2⟩
  have hT1 : cT (gz_G G 148 (gz_T 148 (gy_e n k))) (s_0 x.1) := hc.hi (gz_fr G _ _)
  have hB1 : sB (gz_G G 148 (gz_T 148 (gy_e n k))) (gy_t n k) := fun i hi => ⟨(gz_gI G 148 _ 8 i).trans (c3 i hi).1, (c3 i hi).2⟩
  refine mg_go [84] 20 65 ms_law ?_
  refine ⟨Or.inl rfl, ?_⟩
  refine mg_m_mono (s205 (scr := (L, xs)) (n := n) (m := gy_c n k) 0 hJ hT1 rfl hB1) (by omega) ?_
  rintro o q2 G2 ⟨rfl, hq2, hT2, hF2⟩
  refine ⟨fun h => absurd h (by decide), fun _ => ?_⟩
  have h9 := c106 (scr := (L, xs)) (t := shT n ++ shS (gy_c n k) (gy_t n k).length) 0 hT2
  unfold cAp at h9
  rw [sLd_y hy, y2] at h9
  refine ⟨Or.inr ⟨_, rfl⟩, ?_⟩
  refine cA_go h9 (by omega) ?_
  intro q3 G3 hq3 hT3 hF3
  have fr := hF2.tr hF3
  have ne : ∀ a, 148 ≤ a → ¬ (fun b => b < 148) a := fun a ha => by show ¬ a < 148; omega
  have hU : tR n G3 y.1 [] := by
    refine ⟨?_, by omega, ?_, Nat.zero_le _, fun f hf => ?_, fun i B hi => by cases hi⟩
    · rw [y2]
      exact (congrFun (fr 148 (ne _ (by decide))).2.2.2.2 3).trans ((gz_gF G 148 _ 0 3).trans c1)
    · exact (congrFun (fr 148 (ne _ (by decide))).2.2.2.2 6).trans ((gz_gF G 148 _ 0 6).trans c2)
    · exact (congrFun (fr 149 (ne _ (by decide))).2.1 f).trans ((gz_gJ G 148 _ 1 f).trans (y3 f (by omega)))
  have hR : lR n G3 (y.1, [], fun _ => none, [], 0, Int32.ofInt (-1), sW (s_0 x.1)) := ⟨hT3, hU, hn, ⟨y1, by show 1 ≤ aF y.1; omega⟩, fun B hB => by cases hB⟩
  refine ⟨fun _ => ?_, fun h => absurd rfl h⟩
  refine mg_wp_mono (lwA (e3 := .int (Int32.ofNat k)) (t := shS (gy_c n k) (gy_t n k).length) (n := n) (xs := xs) hL 1170 3 0 G3 _ _ _ hR y2 rfl) ?_
  rintro o q4 G4 ⟨rfl, g1⟩
  exact ⟨rfl, by omega⟩
theorem lwz_23 (hL : L ≤ 260) {r k : Nat} (hr : r < 3) (hk : k < 3) {G : mg_G} {x : a_A × Nat} (hc : cT G (s_0 x.1)) : ew (mm_PP L xs) mc_law 1200 23 [some (.ref 1000002), some (.ref 0), some (.int (Int32.ofNat (3 + r))), none, none, none, none, none] [.int (Int32.ofNat k)] (mg_k G 0 shC, true, 148, 23825) lwZ := by
  obtain ⟨g1, g2, g3, g4⟩ := gy_all r hr k hk
  simp only [gy_1, Bool.and_eq_true] at g1
  have h : ew (mg_P ((L, xs), [])) mc_law 1200 23 [some (.ref 1000002), some (.ref 0), some (.int (Int32.ofNat (3 + r))), none, none, none, none, none] [.int (Int32.ofNat k)] (mg_k G 0 shC ++ [], true, 148, 23825) lwZ := by
    have hXl : (mg_k G 0 shC).length = 148 := (mg_k_len G _ 0).trans gz_lC
    refine ew_till (stop := 65) (n := 100) (m := 148) hXl (by decide) g1.1 ?_
    refine ew_wp (scr := (L, xs)) (pre := shC) (sh := shT (3 + r) ++ shS (gy_c (3 + r) k) (gy_t (3 + r) k).length) (Q := lwQ) g1.2 ?_ ?_
    · rw [gz_lC]
      exact lwz_65 hL (show tt_n (3 + r) by unfold tt_n; omega) g1.2 g2 g3 g4 hc
    · rintro o q G' ⟨rfl, hq⟩
      obtain ⟨e1, e2⟩ := mg_thr_le q (gy_w (3 + r) k)
      have hw : (gy_t (3 + r) k).length < 400 := by
        simp only [gy_4, Bool.and_eq_true, decide_eq_true_eq] at g4
        exact g4.1.1.1.1
      have hc2 : gy_c (3 + r) k ≤ 416 := by
        unfold gy_c
        split <;> omega
      refine ⟨rfl, ?_, ?_⟩
      · show (mg_thr q (gy_w (3 + r) k)).2.1 ≤ _
        rw [e1]
        show 157 + q ≤ _
        omega
      · show (mg_thr q (gy_w (3 + r) k)).2.2 ≤ _
        rw [e2]
        show 23825 + 123 + 24 + gy_c (3 + r) k + (gy_t (3 + r) k).length + 6 * q ≤ _
        omega
  rw [List.append_nil] at h
  exact h
theorem lwz_7 (hL : L ≤ 260) {G : mg_G} {x : a_A × Nat} (hc : cT G (s_0 x.1)) : ew (mm_PP L xs) mc_law 1200 7 [some (.ref 1000002), none, none, none, none, none, none, none] [.ref 0] (mg_k G 0 shC, true, 148, 23825) lwZ := by
  have hXl : (mg_k G 0 shC).length = 148 := (mg_k_len G _ 0).trans gz_lC
  have nil : ∀ {T : List mm_C}, T.length = 0 → mg_k G 0 shC ++ T = mg_k G 0 shC := fun {T} h => by rw [List.eq_nil_of_length_eq_zero h, List.append_nil]
  obtain ⟨r, hr, p1⟩ := t203 (xs := xs) (sh := shC) (G := G) 1199 hL 0 (by decide) (n := 3) (by decide) (by decide)
  obtain ⟨k, hk, p2⟩ := t203 (xs := xs) (sh := shC) (G := G) 1199 hL 1 (by decide) (n := 3) (by decide) (by decide)
  have h : ew (mg_P ((L, xs), [])) mc_law 1200 7 [some (.ref 1000002), none, none, none, none, none, none, none] [.ref 0] (mg_k G 0 shC ++ [], true, 148, 23825) lwZ := by
    refine ew_till (stop := 12) (n := 20) (m := 148) hXl (by decide) gx_7s ?_
    rw [show gz_T 148 (gz_e mc_law 12 20 7 [some (.ref 1000002), none, none, none, none, none, none, none] [.ref 0] 148 [] (true, 148, 23825)) = gz_T 148 gx_7 from rfl, nil gx_7t]
    refine ew_cv (K := ((L, xs), shC)) (G := G) (y := 203) (len := 3) (b := 3) (e1 := 0) (e2 := 1) (i := .nop) (A := [.ref 1000002, .int (Int32.ofNat 0), .int (Int32.ofNat 3)]) (rest := [.int (Int32.ofInt 3)]) rfl rfl (Or.inl rfl) p1 ?_
    have h15 : ew (mg_P ((L, xs), [])) mc_law 1200 15 [some (.ref 1000002), some (.ref 0), none, none, none, none, none, none] [.int (Int32.ofNat r), .int (Int32.ofInt 3)] (mg_k G 0 shC ++ [], true, 148, 23825) lwZ := by
      refine ew_till (stop := 20) (n := 20) (m := 148) hXl (by decide) (gx_15s r hr) ?_
      rw [show gz_T 148 (gz_e mc_law 20 20 15 [some (.ref 1000002), some (.ref 0), none, none, none, none, none, none] [.int (Int32.ofNat r), .int (Int32.ofInt 3)] 148 [] (true, 148, 23825)) = gz_T 148 (gx_15 r) from rfl, nil (gx_15t r hr)]
      refine ew_cv (K := ((L, xs), shC)) (G := G) (y := 203) (len := 3) (b := 3) (e1 := 0) (e2 := 1) (i := .nop) (A := [.ref 1000002, .int (Int32.ofNat 1), .int (Int32.ofNat 3)]) (rest := []) rfl rfl (Or.inl rfl) p2 ?_
      exact lwz_23 hL hr hk hc
    rw [List.append_nil] at h15
    exact h15
  rw [List.append_nil] at h
  exact h
theorem lwz_0 (hL : L ≤ 260) : ew (mm_PP L xs) mc_law 1200 0 (mm_entry [.ref 1000002] 8) [] ([], true, 0, 0) lwZ := by
  obtain ⟨x, hx⟩ := gz_x
  have hl : (gz_d 0).length = ([] : List mm_C).length := rfl
  refine ew_till (K := ((L, xs), [])) (X := []) (T0 := []) (stop := 4) (n := 20) (m := 0) rfl (by decide) gz_1 ?_
  refine ew_call (y := 103) (len := 3) (b := 1) (e1 := 9) (e2 := 2) (i := .nop) (A := [.ref 0]) (rest := [.ref 0]) rfl rfl (fw_isr (p := mm_old L xs) (PQ := mm_PQ) (D := gz_d 0) hl (gz_dd 0) ⟨gz_T1, (true, 1, 8), rfl, rfl⟩ (by decide) gz_1i) ?_
  have h2 : ∃ N r, mm_run (mg_P ((L, xs), [])) mg_M N (1199 + 1) 103 [.ref 0] ([] ++ gz_T1, true, 1, 8) = some r ∧ (∃ G1, r = (.inl none, (mg_k G1 0 shC, true, 148, 23825)) ∧ cT G1 (s_0 x.1)) := by
    refine ew_m my_103 (by decide) ?_
    refine ew_till (stop := 81) (n := 400) (m := 0) rfl (by decide) gz_2 ?_
    refine ew_wp (scr := (L, xs)) (G := gz_0) (pre := []) (sh := shC ++ []) (Q := fun o q G' => o = .inl none ∧ q = 0 ∧ cT G' (s_0 x.1)) (by rw [List.append_nil]; exact gz_2k) ?_ ?_
    · exact s103 899 hx gz_cG0
    · rintro o k G' ⟨rfl, rfl, hT⟩
      exact ⟨G', by rw [List.append_nil]; rfl, hT⟩
  obtain ⟨N, r, h3, G1, rfl, hc1⟩ := h2
  exact ⟨N, _, h3, rfl, lwz_7 hL hc1⟩
theorem lw_goal : mm_goal := fun L xs hL => by
  obtain ⟨N, n, ⟨o, σ⟩, h1, h2, h3, h4⟩ := lwz_0 (xs := xs) hL
  obtain rfl : o = .inl (some (.int 1)) := h2
  exact ⟨N, 1200, n, σ, by decide, h1, h3, h4⟩
end LW
