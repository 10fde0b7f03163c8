/-! CLASS: the pairs are counted -/
theorem pF9_ok {nv : Nat} {g : a_Gr} (hg : gW nv g) {z y : pP} {M : List pP} (hn : M.Nodup) (hR : ∀ w, w ∈ M → pR g z w) (hy : pR g z y) : (pF9 g nv M y).Nodup ∧ (∀ w, w ∈ pF9 g nv M y → pR g z w) ∧ (∀ w, w ∈ M → w ∈ pF9 g nv M y) ∧ (pL g y < nv → pO g y ∈ pF9 g nv M y ∧ pH g y ∈ pF9 g nv M y) ∧ ∀ (i : Nat) (w : pP), M[i]? = some w → (pF9 g nv M y)[i]? = some w := by
  unfold pF9
  by_cases hl : pL g y < nv
  · rw [if_pos hl]
    obtain ⟨r1, r2⟩ := pR_O hg hy hl
    obtain ⟨m1, m2, m3, m4, m5⟩ := pA_ok hn hR r1
    obtain ⟨n1, n2, n3, n4, n5⟩ := pA_ok m1 m2 r2
    exact ⟨n1, n2, fun w h => n3 w (m3 w h), fun _ => ⟨n3 _ m4, n4⟩, fun i w h => n5 i w (m5 i w h)⟩
  · rw [if_neg hl]
    exact ⟨hn, hR, fun _ h => h, fun h => absurd h hl, fun _ _ h => h⟩
section KC
variable {scr : Nat × (Nat → Int32)} {t : List mg_S} {G : mg_G} {S : a_S} {A : a_A}
theorem c22l (d : Nat) {z : pP} (hg : gW (aV A) (aG A)) (hz : pIn (aG A) z) (e1 e2 : Int32) : ∀ m i (M : List pP) (G : mg_G), i + m = 259 → i ≤ M.length → cGr G 122 (aV A) (aG A) → cQ9 G M → M.Nodup → (∀ y, y ∈ M → pR (aG A) z y) → z ∈ M → (∀ (j : Nat) (x : pP), j < i → M[j]? = some x → pL (aG A) x < aV A → pO (aG A) x ∈ M ∧ pH (aG A) x ∈ M) → mg_wp (mg_KC scr t) mc_22 (d + 2) 31 [some (.ref 122), some (.int e1), some (.int e2), some (.int (Int32.ofNat i))] [] G (fun o q G' => o = .inl (some (.int (Int32.ofNat (g_pr (aG A) (aV A) z)))) ∧ q = 0 ∧ cF9 G G') := by
  have h628 := hg.2.1
  have fin : ∀ (M : List pP) (i : Nat), i = M.length → M.Nodup → (∀ y, y ∈ M → pR (aG A) z y) → z ∈ M → (∀ (j : Nat) (x : pP), j < i → M[j]? = some x → pL (aG A) x < aV A → pO (aG A) x ∈ M ∧ pH (aG A) x ∈ M) → M.length = g_pr (aG A) (aV A) z := fun M i hi hn hR h0 hc => g_pr_eq hg hz hn hR h0 (fun x hx hl => by
    obtain ⟨j, hj⟩ := List.mem_iff_getElem?.mp hx
    exact hc j x (by have := (List.getElem?_eq_some_iff.mp hj).1; omega) hj hl)
  intro m
  induction m with
  | zero =>
    intro i M G hi hiM hC hQ hn hR h0 hc
    have h259 := p_259 hg hn hR
    have e : i = M.length := by omega
    have el := fin M i e hn hR h0 hc
    have hi2 : i = 259 := by omega
    subst hi2
    refine mg_go [31] 60 31 ms_22 ?_
    refine ⟨fun _ => ?_, fun q => absurd q (by decide)⟩
    refine ⟨_, mg_Fe hQ.1 rfl rfl, Or.inl rfl, ?_⟩
    rw [el]
    exact ⟨rfl, rfl, cF9.rf G⟩
  | succ m ih =>
    intro i M G hi hiM hC hQ hn hR h0 hc
    have h259 := p_259 hg hn hR
    by_cases e : i = M.length
    · have el := fin M i e hn hR h0 hc
      refine mg_go [31] 60 31 ms_22 ?_
      refine ⟨fun q => absurd q (mg_nle (b := 259) (by omega) (by decide)), fun _ => ?_⟩
      refine ⟨_, mg_Fe hQ.1 rfl rfl, fun _ => ?_, fun q => absurd q (mg_nlt (by omega) (by omega))⟩
      refine ⟨_, mg_Fe hQ.1 rfl rfl, Or.inl rfl, ?_⟩
      rw [el]
      exact ⟨rfl, rfl, cF9.rf G⟩
    · have hil : i < M.length := by omega
      obtain ⟨y, hy⟩ : ∃ y, M[i]? = some y := ⟨_, List.getElem?_eq_getElem hil⟩
      obtain ⟨a, b⟩ := y
      have hym := List.mem_of_getElem? hy
      have hyR := hR _ hym
      have ha : a < 628 := Nat.lt_of_lt_of_le hyR.1.1 h628
      have hb : b < 628 := Nat.lt_of_lt_of_le hyR.1.2 h628
      have ey : G.1 132 i = Int32.ofNat (628 * a + b) := hQ.2.1 i _ hy
      obtain ⟨d1, d2⟩ := mg_d628 ha hb
      have k24 := c24 (scr := scr) (t := t) d hC hg hQ hn hR hyR
      rw [← d1, ← d2] at k24
      obtain ⟨m1, m2, m3, m4, m5⟩ := pF9_ok hg hn hR hyR
      refine mg_go [31] 60 31 ms_22 ?_
      refine ⟨fun q => absurd q (mg_nle (b := 259) (by omega) (by decide)), fun _ => ?_⟩
      refine ⟨_, mg_Fe hQ.1 rfl rfl, fun q => absurd q (mg_nle hil (by omega)), fun _ => ?_⟩
      repeat (first | refine ⟨_, mg_Fs rfl rfl, ?_⟩ | refine ⟨Or.inl rfl, ?_⟩ | refine ⟨Or.inr ⟨_, rfl⟩, ?_⟩ | refine ⟨fun _ => ?_, fun h => absurd h (by decide)⟩ | refine ⟨fun h => absurd h (by decide), fun _ => ?_⟩)
      refine ⟨259, _, i, mg_Ai rfl (by decide), mg_ixN (by omega), by omega, ?_⟩
      rw [ey]
      repeat (first | refine ⟨_, mg_Fs rfl rfl, ?_⟩ | refine ⟨Or.inl rfl, ?_⟩ | refine ⟨Or.inr ⟨_, rfl⟩, ?_⟩ | refine ⟨fun _ => ?_, fun h => absurd h (by decide)⟩ | refine ⟨fun h => absurd h (by decide), fun _ => ?_⟩)
      refine ⟨259, _, i, mg_Ai rfl (by decide), mg_ixN (by omega), by omega, ?_⟩
      rw [ey]
      repeat (first | refine ⟨_, mg_Fs rfl rfl, ?_⟩ | refine ⟨Or.inl rfl, ?_⟩ | refine ⟨Or.inr ⟨_, rfl⟩, ?_⟩ | refine ⟨fun _ => ?_, fun h => absurd h (by decide)⟩ | refine ⟨fun h => absurd h (by decide), fun _ => ?_⟩)
      refine mg_m_mono (k24) (by omega) ?_
      rintro o q G1 ⟨rfl, rfl, hQ1, hF1⟩
      have g := ih (i + 1) (pF9 (aG A) (aV A) M (a, b)) G1 (by omega) (by
        have := m5 i _ hy
        have := (List.getElem?_eq_some_iff.mp this).1
        omega) (hF1.g hC) hQ1 m1 m2 (m3 z h0) (fun j x hj hx hl => by
        by_cases ej : j = i
        · subst ej
          have e9 := m5 j _ hy
          rw [hx] at e9
          cases Option.some.inj e9
          exact m4 hl
        · have hjl : j < M.length := by omega
          have hx2 : M[j]? = some x := by
            obtain ⟨w, hw⟩ : ∃ w, M[j]? = some w := ⟨_, List.getElem?_eq_getElem hjl⟩
            have := m5 j w hw
            rw [hx] at this
            rw [hw, Option.some.inj this]
          have := hc j x (by omega) hx2 hl
          exact ⟨m3 _ this.1, m3 _ this.2⟩)
      rw [← mg_inc i] at g
      refine mg_wp_mono g ?_
      rintro o q G2 ⟨rfl, rfl, hF2⟩
      exact ⟨rfl, rfl, hF1.tr hF2⟩
theorem c22 (d : Nat) (hD : cDA G A) {i j : Nat} (hi : i < aF A) (hj : j < aF A) (h12 : aF A ≤ 12) : mg_m (mg_KC scr t) (d + 3) 22 [.ref 122, .int (Int32.ofNat i), .int (Int32.ofNat j)] G (fun o q G' => o = .inl (some (.int (Int32.ofNat (g_pr (aG A) (aV A) (aR A i, aR A j))))) ∧ q = 0 ∧ cF9 G G') := by
  have hg := hD.2.1
  have h628 := hg.2.1
  have hz : pIn (aG A) (aR A i, aR A j) := ⟨hD.rt hi, hD.rt hj⟩
  have ei := (hD.2.2.2.1 i hi).1
  have ej := (hD.2.2.2.1 j hj).1
  have hF1 : cF9 G (mg_sF ((mg_u G.1 131 (fun i => if i < 1024 then 0 else G.1 131 i), G.2) : mg_G) 122 11 (.int 0)) := ⟨(mg_fr.u1 (p := fun a => a = 122 ∨ a = 131 ∨ a = 132) G _ (by decide)).tr (mg_fr.sF _ _ _ (by decide)), mg_u_ne G.1 (fun i => if i < 1024 then 0 else G.1 131 i) (show (122 : Nat) ≠ 131 by decide), rfl, rfl, rfl, fun k hk => mg_sF_ne _ _ (by omega)⟩
  have hQ1 : cQ9 (mg_sF ((mg_u G.1 131 (fun i => if i < 1024 then 0 else G.1 131 i), G.2) : mg_G) 122 11 (.int 0)) [] := by
    refine ⟨mg_sF_at _ _ _ _, fun i z h => absurd (show (none : Option pP) = some z from h) (fun q => nomatch q), fun _ => 0, fun q hq => ?_, a_hs_nil⟩
    exact (congrFun (mg_u_eq G.1 131 _) q).trans (if_pos hq)
  have k23 : mg_m (mg_KC scr t) (d + 2) 23 [.ref 122, .int (Int32.ofNat (aR A i)), .int (Int32.ofNat (aR A j))] (mg_sF ((mg_u G.1 131 (fun i => if i < 1024 then 0 else G.1 131 i), G.2) : mg_G) 122 11 (.int 0)) (fun o q G' => o = .inl none ∧ q = 0 ∧ cQ9 G' [(aR A i, aR A j)] ∧ cF9 (mg_sF ((mg_u G.1 131 (fun i => if i < 1024 then 0 else G.1 131 i), G.2) : mg_G) 122 11 (.int 0)) G') := mg_m_mono (c23 (M := []) (a := aR A i) (b := aR A j) d hQ1 List.nodup_nil (fun y h => absurd h List.not_mem_nil) (by show [(aR A i, aR A j)].length ≤ 259; exact (show 1 ≤ 259 by decide)) (Nat.lt_of_lt_of_le hz.1 h628) (Nat.lt_of_lt_of_le hz.2 h628)) (by omega) (fun _ _ _ w => w)
  have ei2 : (mg_sF ((mg_u G.1 131 (fun i => if i < 1024 then 0 else G.1 131 i), G.2) : mg_G) 122 11 (.int 0)).1 129 i = Int32.ofNat (aR A i) := (congrFun (mg_u_ne G.1 (fun i => if i < 1024 then 0 else G.1 131 i) (show (129 : Nat) ≠ 131 by decide)) i).trans ei
  have ej2 : (mg_sF ((mg_u G.1 131 (fun i => if i < 1024 then 0 else G.1 131 i), G.2) : mg_G) 122 11 (.int 0)).1 129 j = Int32.ofNat (aR A j) := (congrFun (mg_u_ne G.1 (fun i => if i < 1024 then 0 else G.1 131 i) (show (129 : Nat) ≠ 131 by decide)) j).trans ej
  rw [← ei2, ← ej2] at k23
  refine mg_me [31] 60 my_22 ms_22 (Nat.le_of_ble_eq_true rfl) ?_
  refine ⟨_, mg_Fs rfl rfl, Or.inl rfl, mg_cn (c341 0 131 1024 _ _ rfl (by decide) (by decide)) (by omega) ?_⟩
  refine ⟨rfl, _, rfl, rfl, ?_⟩
  repeat (first | refine ⟨_, mg_Fs rfl rfl, ?_⟩ | refine ⟨Or.inl rfl, ?_⟩ | refine ⟨Or.inr ⟨_, rfl⟩, ?_⟩ | refine ⟨fun _ => ?_, fun h => absurd h (by decide)⟩ | refine ⟨fun h => absurd h (by decide), fun _ => ?_⟩)
  refine ⟨12, _, i, mg_Ai rfl (by decide), mg_ixN (by omega), by omega, ?_⟩
  repeat (first | refine ⟨_, mg_Fs rfl rfl, ?_⟩ | refine ⟨Or.inl rfl, ?_⟩ | refine ⟨Or.inr ⟨_, rfl⟩, ?_⟩ | refine ⟨fun _ => ?_, fun h => absurd h (by decide)⟩ | refine ⟨fun h => absurd h (by decide), fun _ => ?_⟩)
  refine ⟨12, _, j, mg_Ai rfl (by decide), mg_ixN (by omega), by omega, ?_⟩
  repeat (first | refine ⟨_, mg_Fs rfl rfl, ?_⟩ | refine ⟨Or.inl rfl, ?_⟩ | refine ⟨Or.inr ⟨_, rfl⟩, ?_⟩ | refine ⟨fun _ => ?_, fun h => absurd h (by decide)⟩ | refine ⟨fun h => absurd h (by decide), fun _ => ?_⟩)
  refine mg_m_mono (k23) (by omega) ?_
  rintro o q G2 ⟨rfl, rfl, hQ2, hF2⟩
  refine mg_wp_mono (c22l (A := A) (z := (aR A i, aR A j)) d hg hz (Int32.ofNat i) (Int32.ofNat j) 259 0 [(aR A i, aR A j)] G2 rfl (Nat.zero_le _) (hF2.g (hF1.g hD.1)) hQ2 (List.nodup_cons.mpr ⟨List.not_mem_nil, List.nodup_nil⟩) (fun y hy => by rw [List.mem_singleton.mp hy]; exact pR_0 hz) (List.mem_singleton.mpr rfl) (fun j x hj => absurd hj (Nat.not_lt_zero j))) ?_
  rintro o q G3 ⟨rfl, rfl, hF3⟩
  exact ⟨rfl, rfl, (hF1.tr hF2).tr hF3⟩
theorem c131 (d : Nat) (hT : cT G S) (f g : Int32) : mg_m (mg_KC scr t) (d + 20) 131 [.ref 0, .int f, .int g] G (cA G (ex1 xI) S (q293 (sA S) f g)) := by
  have h8 := hT.v8
  have h12 := hT.f12
  unfold q293
  cases hf : vi f (aF (sA S)) with
  | none =>
    rw [qF_x hf]
    refine mg_me [] 60 my_131 ms_131 (Nat.le_of_ble_eq_true rfl) ?_
    repeat (first | refine ⟨_, mg_Fs rfl rfl, ?_⟩ | refine ⟨Or.inl rfl, ?_⟩ | refine ⟨Or.inr ⟨_, rfl⟩, ?_⟩ | refine ⟨fun _ => ?_, fun h => absurd h (by decide)⟩ | refine ⟨fun h => absurd h (by decide), fun _ => ?_⟩)
    refine mg_cx (c156x d hT hf) (by omega) ?_
    exact cA_x hT (by decide) rfl
  | some i =>
    obtain ⟨rfl, hi⟩ := vi_s hf
    rw [qF_y hf]
    cases hg : vi g (aF (sA S)) with
    | none =>
      rw [qF_x hg]
      refine mg_me [] 60 my_131 ms_131 (Nat.le_of_ble_eq_true rfl) ?_
      repeat (first | refine ⟨_, mg_Fs rfl rfl, ?_⟩ | refine ⟨Or.inl rfl, ?_⟩ | refine ⟨Or.inr ⟨_, rfl⟩, ?_⟩ | refine ⟨fun _ => ?_, fun h => absurd h (by decide)⟩ | refine ⟨fun h => absurd h (by decide), fun _ => ?_⟩)
      refine mg_cn (c156y d hT hf) (by omega) ?_
      repeat (first | refine ⟨_, mg_Fs rfl rfl, ?_⟩ | refine ⟨Or.inl rfl, ?_⟩ | refine ⟨Or.inr ⟨_, rfl⟩, ?_⟩ | refine ⟨fun _ => ?_, fun h => absurd h (by decide)⟩ | refine ⟨fun h => absurd h (by decide), fun _ => ?_⟩)
      refine mg_cx (c156x d hT hg) (by omega) ?_
      exact cA_x hT (by decide) rfl
    | some j =>
      obtain ⟨rfl, hj⟩ := vi_s hg
      rw [qF_y hg]
      refine mg_me [] 60 my_131 ms_131 (Nat.le_of_ble_eq_true rfl) ?_
      repeat (first | refine ⟨_, mg_Fs rfl rfl, ?_⟩ | refine ⟨Or.inl rfl, ?_⟩ | refine ⟨Or.inr ⟨_, rfl⟩, ?_⟩ | refine ⟨fun _ => ?_, fun h => absurd h (by decide)⟩ | refine ⟨fun h => absurd h (by decide), fun _ => ?_⟩)
      refine mg_cn (c156y d hT hf) (by omega) ?_
      repeat (first | refine ⟨_, mg_Fs rfl rfl, ?_⟩ | refine ⟨Or.inl rfl, ?_⟩ | refine ⟨Or.inr ⟨_, rfl⟩, ?_⟩ | refine ⟨fun _ => ?_, fun h => absurd h (by decide)⟩ | refine ⟨fun h => absurd h (by decide), fun _ => ?_⟩)
      refine mg_cn (c156y d hT hg) (by omega) ?_
      repeat (first | refine ⟨_, mg_Fs rfl rfl, ?_⟩ | refine ⟨Or.inl rfl, ?_⟩ | refine ⟨Or.inr ⟨_, rfl⟩, ?_⟩ | refine ⟨fun _ => ?_, fun h => absurd h (by decide)⟩ | refine ⟨fun h => absurd h (by decide), fun _ => ?_⟩)
      refine mg_m_mono (c165 d hT) (by omega) ?_
      rintro o q G1 ⟨rfl, rfl, hT1, hD, hF⟩
      repeat (first | refine ⟨_, mg_Fs rfl rfl, ?_⟩ | refine ⟨Or.inl rfl, ?_⟩ | refine ⟨Or.inr ⟨_, rfl⟩, ?_⟩ | refine ⟨fun _ => ?_, fun h => absurd h (by decide)⟩ | refine ⟨fun h => absurd h (by decide), fun _ => ?_⟩)
      refine mg_m_mono (c22 d hD hi hj h12) (by omega) ?_
      rintro o q G2 ⟨rfl, rfl, hF2⟩
      refine ⟨Or.inl rfl, cA_v (hT1.fr (hF2.1.mono (fun a ha => by unfold kN kG; omega)) (hF2.w hT1.2.2.2.2.2.2.2)) ((fr0 hF).tr (hF2.1.mono (fun a ha => by show a < 148; omega))) rfl⟩
end KC
