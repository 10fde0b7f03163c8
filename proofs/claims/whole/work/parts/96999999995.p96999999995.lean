/-! THE LAW: all of it -/
theorem gz_fr (G : mg_G) (m : Nat) (T : List mm_C) : mg_fr (fun b => m ≤ b) G (gz_G G m T) := fun b hb => by
  have hb2 : b < m := by omega
  exact ⟨if_pos hb2, if_pos hb2, if_pos hb2, if_pos hb2, if_pos hb2⟩
theorem gz_gI (G : mg_G) (m : Nat) (T : List mm_C) (j k : Nat) : (gz_G G m T).1 (m + j) k = gz_I T[j]? k := by
  show (if m + j < m then G.1 (m + j) else gz_I T[m + j - m]?) k = _
  rw [if_neg (by omega), show m + j - m = j by omega]
theorem gz_gJ (G : mg_G) (m : Nat) (T : List mm_C) (j k : Nat) : (gz_G G m T).2.1 (m + j) k = gz_J T[j]? k := by
  show (if m + j < m then G.2.1 (m + j) else gz_J T[m + j - m]?) k = _
  rw [if_neg (by omega), show m + j - m = j by omega]
theorem gz_gR (G : mg_G) (m : Nat) (T : List mm_C) (j k : Nat) : (gz_G G m T).2.2.2.1 (m + j) k = gz_R T[j]? k := by
  show (if m + j < m then G.2.2.2.1 (m + j) else gz_R T[m + j - m]?) k = _
  rw [if_neg (by omega), show m + j - m = j by omega]
theorem gz_gF (G : mg_G) (m : Nat) (T : List mm_C) (j k : Nat) : (gz_G G m T).2.2.2.2 (m + j) k = gz_F T[j]? k := by
  show (if m + j < m then G.2.2.2.2 (m + j) else gz_F T[m + j - m]?) k = _
  rw [if_neg (by omega), show m + j - m = j by omega]
theorem gz_c2 {T : List mm_C} (h : (gz_F T[1]? 1 = .int (Int32.ofNat 0) ∧ gz_F T[38]? 1 = .int 0 ∧ gz_F T[38]? 2 = .int 0) ∧ (∀ i, i < 8 → gz_R T[39]? i = some (42 + 8 * i)) ∧ (∀ s, s < 2 → gz_R T[40]? s = some (42 + 8 * (8 + s))) ∧ (∀ s, s < 2 → gz_I T[41]? s = 0) ∧ gz_F T[146]? 1 = .int 0 ∧ gz_F T[0]? 7 = .int 0) : cG0 (gz_G gz_0 0 T) := by
  obtain ⟨⟨h1, h2, h3⟩, h4, h5, h6, h7, h8⟩ := h
  exact ⟨⟨(gz_gF gz_0 0 T 1 1).trans h1, Nat.zero_le _, fun i c hi => by cases hi⟩, (gz_gF gz_0 0 T 38 1).trans h2, (gz_gF gz_0 0 T 38 2).trans h3, fun i hi => (gz_gR gz_0 0 T 39 i).trans (h4 i hi), fun s hs => (gz_gR gz_0 0 T 40 s).trans (h5 s hs), fun s hs => (gz_gI gz_0 0 T 41 s).trans (h6 s hs), (gz_gF gz_0 0 T 146 1).trans h7, (gz_gF gz_0 0 T 0 7).trans h8⟩
theorem gz_cG0 : cG0 (gz_G gz_0 0 gz_T2) := gz_c2 gz_2c
theorem gz_c4 (G : mg_G) {T : List mm_C} (h : (∀ v, v < 6 → gz_J T[6]? v = a_m v) ∧ gz_F T[0]? 3 = .int 0 ∧ (∀ s, s < 2 → gz_I T[3]? s = 0) ∧ gz_F T[0]? 9 = .int 0) : rG0 (gz_G G 148 T) :=
  ⟨fun v hv => (gz_gJ G 148 T 6 v).trans (h.1 v hv), (gz_gF G 148 T 0 3).trans h.2.1, fun s hs => (gz_gI G 148 T 3 s).trans (h.2.2.1 s hs), (gz_gF G 148 T 0 9).trans h.2.2.2⟩
theorem gz_rG0 (G : mg_G) : rG0 (gz_G G 148 gz_T4) := gz_c4 G gz_4c
theorem gz_lC : shC.length = 148 := by decide +kernel
theorem gz_lM : (shC ++ (shM ++ [])).length = 169 := by decide +kernel
theorem mg_thr_le (k : Nat) (w : Bool × Nat × Nat) : (mg_thr k w).2.1 = w.2.1 + k ∧ (mg_thr k w).2.2 = w.2.2 + 6 * k := by
  cases k with
  | zero => exact ⟨rfl, rfl⟩
  | succ k => exact ⟨rfl, rfl⟩
section LW
variable {L : Nat} {xs : Nat → Int32}
def lwZ (r : mm_R) : Prop := r.1 = .inl (some (.int 1)) ∧ r.2.2.2.1 ≤ 601024 ∧ r.2.2.2.2 ≤ 7293034
theorem lwz_28 (hL : L ≤ 3072) {G : mg_G} {S : a_S} (hc : cT G S) (hr : rT G S) : ew (mm_PP L xs) mc_law 1200 15 [some (.ref 1000002), some (.ref 0), none, none, none, none, none, none, none] [.ref 148] (mg_k G 0 (shC ++ (shM ++ [])), true, 169, 45207) lwZ := by
  have h : ew (mg_P ((L, xs), [])) mc_law 1200 15 [some (.ref 1000002), some (.ref 0), none, none, none, none, none, none, none] [.ref 148] (mg_k G 0 (shC ++ (shM ++ [])) ++ [], true, 169, 45207) lwZ := by
    refine ew_till (stop := 28) (n := 30) (m := 169) ((mg_k_len G _ 0).trans gz_lM) (by decide) gz_5 ?_
    refine ew_wp (scr := (L, xs)) (pre := shC ++ (shM ++ [])) (sh := shO) (Q := lwQ 512) gz_5k ?_ ?_
    · rw [List.append_assoc, List.append_assoc, List.nil_append]
      exact lw_loop hL 379 512 0 _ S _ _ _ (by omega) (by omega) (hc.hi ((gz_fr G _ _).mono (fun b hb => by rw [gz_lM] at hb; omega))) (hr.fc ((gz_fr G _ _).mono (fun b hb => by rw [gz_lM] at hb; omega)))
    · rintro o k G' ⟨rfl, hk⟩
      obtain ⟨e1, e2⟩ := mg_thr_le k (true, 171, 45209)
      exact ⟨rfl, by show (mg_thr k (true, 171, 45209)).2.1 ≤ _; rw [e1]; show 171 + k ≤ _; omega, by show (mg_thr k (true, 171, 45209)).2.2 ≤ _; rw [e2]; show 45209 + 6 * k ≤ _; omega⟩
  rw [List.append_nil] at h
  exact h
theorem lwz_7 (hL : L ≤ 3072) {x : a_A × Nat} (hx : tY (k_str 0) = .inr x) {G : mg_G} (hc : cT G (s_0 x.1)) : ew (mm_PP L xs) mc_law 1200 7 [some (.ref 1000002), none, none, none, none, none, none, none, none] [.ref 0] (mg_k G 0 shC, true, 148, 23825) lwZ := by
  have h : ew (mg_P ((L, xs), [])) mc_law 1200 7 [some (.ref 1000002), none, none, none, none, none, none, none, none] [.ref 0] (mg_k G 0 shC ++ [], true, 148, 23825) lwZ := by
    have hXl : (mg_k G 0 shC).length = 148 := (mg_k_len G _ 0).trans gz_lC
    have hl : (gz_d 148).length = (mg_k G 0 shC).length := (show (gz_d 148).length = 148 from List.length_replicate ..).trans hXl.symm
    refine ew_till (stop := 12) (n := 20) (m := 148) hXl (by decide) gz_3 ?_
    refine ew_call (y := 175) (len := 3) (b := 1) (e1 := 10) (e2 := 2) (i := .nop) (A := [.ref 148]) (rest := [.ref 148]) rfl rfl (fw_isr (p := mm_old L xs) (PQ := mm_PQ) (D := gz_d 148) hl (gz_dd 148) ⟨gz_T3, (true, 149, 23859), rfl, rfl⟩ (by decide) gz_3i) ?_
    have h2 : ∃ N r, mm_run (mg_P ((L, xs), [])) mg_M N (1199 + 1) 175 [.ref 148] (mg_k G 0 shC ++ gz_T3, true, 149, 23859) = some r ∧ (∃ G2, r = (.inl none, (mg_k G2 0 (shC ++ (shM ++ [])), true, 169, 45207)) ∧ cT G2 (s_0 x.1) ∧ rT G2 (s_0 x.1)) := by
      refine ew_m my_175 (by decide) ?_
      refine ew_till (stop := 283) (n := 400) (m := 148) hXl (by decide) gz_4 ?_
      refine ew_wp (scr := (L, xs)) (pre := shC) (sh := shM ++ []) (Q := fun o q G' => o = .inl none ∧ q = 0 ∧ rT G' (s_0 x.1) ∧ rF (gz_G G shC.length gz_T4) G') (by rw [List.append_nil]; exact gz_4k) ?_ ?_
      · exact s175 299 hx (gz_lC ▸ gz_rG0 G)
      · rintro o k G' ⟨rfl, rfl, hT, hF⟩
        exact ⟨G', rfl, (hc.hi ((gz_fr G _ _).mono (fun b hb => by rw [gz_lC] at hb; exact hb))).rF hF, hT⟩
    obtain ⟨N, r, h3, G2, rfl, hc2, hr2⟩ := h2
    exact ⟨N, _, h3, rfl, lwz_28 hL hc2 hr2⟩
  rw [List.append_nil] at h
  exact h
theorem lwz_0 (hL : L ≤ 3072) : ew (mm_PP L xs) mc_law 1200 0 (mm_entry [.ref 1000002] 9) [] ([], true, 0, 0) lwZ := by
  obtain ⟨x, hx⟩ := gz_x
  have hl : (gz_d 0).length = ([] : List mm_C).length := rfl
  refine ew_till (K := ((L, xs), [])) (X := []) (T0 := []) (stop := 4) (n := 20) (m := 0) rfl (by decide) gz_1 ?_
  refine ew_call (y := 103) (len := 3) (b := 1) (e1 := 9) (e2 := 2) (i := .nop) (A := [.ref 0]) (rest := [.ref 0]) rfl rfl (fw_isr (p := mm_old L xs) (PQ := mm_PQ) (D := gz_d 0) hl (gz_dd 0) ⟨gz_T1, (true, 1, 8), rfl, rfl⟩ (by decide) gz_1i) ?_
  have h2 : ∃ N r, mm_run (mg_P ((L, xs), [])) mg_M N (1199 + 1) 103 [.ref 0] ([] ++ gz_T1, true, 1, 8) = some r ∧ (∃ G1, r = (.inl none, (mg_k G1 0 shC, true, 148, 23825)) ∧ cT G1 (s_0 x.1)) := by
    refine ew_m my_103 (by decide) ?_
    refine ew_till (stop := 81) (n := 400) (m := 0) rfl (by decide) gz_2 ?_
    refine ew_wp (scr := (L, xs)) (G := gz_0) (pre := []) (sh := shC ++ []) (Q := fun o q G' => o = .inl none ∧ q = 0 ∧ cT G' (s_0 x.1)) (by rw [List.append_nil]; exact gz_2k) ?_ ?_
    · exact s103 899 hx gz_cG0
    · rintro o k G' ⟨rfl, rfl, hT⟩
      exact ⟨G', by rw [List.append_nil]; rfl, hT⟩
  obtain ⟨N, r, h3, G1, rfl, hc1⟩ := h2
  exact ⟨N, _, h3, rfl, lwz_7 hL hx hc1⟩
theorem lw_goal : mm_goal := fun L xs hL => by
  obtain ⟨N, n, ⟨o, σ⟩, h1, h2, h3, h4⟩ := lwz_0 (xs := xs) hL
  obtain rfl : o = .inl (some (.int 1)) := h2
  exact ⟨N, 1200, n, σ, by decide, h1, h3, h4⟩
end LW
