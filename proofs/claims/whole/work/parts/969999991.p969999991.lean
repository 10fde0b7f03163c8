/-! REFERENCE: a system is read -/
theorem tD_s (l : List Nat) (n : Nat) (N : Nat → List Nat) (v p : Nat) : tD l (n + 1) N v p = if k_nm l p = true then (if t_nw (vA N v) l p = true then (if v = 8 then .inl (5, k_S l p) else if k_is l (k_E l p) 59 = true then .inr (vA (mg_u N v (k_W l p)) (v + 1), k_E l (k_E l p)) else tD l n (mg_u N v (k_W l p)) (v + 1) (k_E l p)) else .inl (4, k_S l p)) else .inl (1, k_S l p) := rfl
theorem mg_26 (v : Nat) : Int32.ofNat (26 + 8 * v) = (Int8.ofInt 26).toInt32 + (Int8.ofInt 8).toInt32 * Int32.ofNat v := by
  rw [Int32.ofNat_add, Int32.ofNat_mul]
  rfl
section RM
variable {scr : Nat × (Nat → Int32)} {t : List mg_S} {G G0 : mg_G} {A : a_A} {l : List Nat} {p : Nat}
theorem r244v : ∀ n (N : Nat → List Nat) v p (G : mg_G) (e1 : Option Value), uV G N v → tF G0 G → G.2.2.2.2 148 6 = G0.2.2.2.2 148 6 → G.2.2.2.2 148 7 = G0.2.2.2.2 148 7 → (∀ v, v < 6 → G.2.1 154 v = a_m v) → rIn G l → rk G l p → p ≤ l.length → 9 - v ≤ n → ∀ d (r : zEr ⊕ (a_A × Nat)), r = tX l (tD l n N v p) → mg_wp (mg_KM scr t) mc_244 (d + 800) 42 [some (.ref 148), e1] [] G (rY9 G0 r) := by
  intro n
  induction n with
  | zero =>
    intro N v p G e1 hU hF g6 g7 hm hN hk hp hn d r hr
    have := hU.1
    exact absurd hn (by omega)
  | succ n ih =>
    intro N v p G e1 hU hF g6 g7 hm hN hk hp hn d r hr
    have hE := k_E_le hp
    have hl6 := hN.2.1
    have h8 := hU.1
    rw [tD_s] at hr
    have ern : ∀ {c : Int32}, r = .inl (c, k_S l p) → rY9 G0 r (.inl (some (.int 0))) 0 (zX G c l p) := fun {c} e => by
      rw [e]
      exact ⟨rfl, hF.tr (zX_R G c l p).t, rfl, (mg_sF_ne _ _ (by decide)).trans (mg_sF_at _ _ _ _), mg_sF_at _ _ _ _⟩
    cases b1 : k_nm l p with
    | false =>
      rw [b1, if_neg (show ¬ (false = true) by decide)] at hr
      refine mg_go [42] 60 42 ms_244 ?_
      repeat (first | refine ⟨_, mg_Fs rfl rfl, ?_⟩ | refine ⟨Or.inl rfl, ?_⟩ | refine ⟨Or.inr ⟨_, rfl⟩, ?_⟩ | refine ⟨fun _ => ?_, fun h => absurd h (by decide)⟩ | refine ⟨fun h => absurd h (by decide), fun _ => ?_⟩)
      refine mg_cv (r222x d hN hk hp b1) (by omega) ?_
      refine ⟨fun q => absurd rfl q, fun _ => ?_⟩
      exact ⟨Or.inr rfl, ern hr⟩
    | true =>
    rw [b1, if_pos rfl] at hr
    cases b2 : t_nw (vA N v) l p with
    | false =>
      rw [b2, if_neg (show ¬ (false = true) by decide)] at hr
      refine mg_go [42] 60 42 ms_244 ?_
      repeat (first | refine ⟨_, mg_Fs rfl rfl, ?_⟩ | refine ⟨Or.inl rfl, ?_⟩ | refine ⟨Or.inr ⟨_, rfl⟩, ?_⟩ | refine ⟨fun _ => ?_, fun h => absurd h (by decide)⟩ | refine ⟨fun h => absurd h (by decide), fun _ => ?_⟩)
      refine mg_cv (r222z d hU.V9 hN hk hp b1 b2) (by omega) ?_
      refine ⟨fun q => absurd rfl q, fun _ => ?_⟩
      exact ⟨Or.inr rfl, ern hr⟩
    | true =>
    rw [b2, if_pos rfl] at hr
    have k222 := r222y (scr := scr) (t := t) d hU.V9 hN hk hp b1 b2
    by_cases e8 : v = 8
    · rw [if_pos e8] at hr
      subst e8
      refine mg_go [42] 60 42 ms_244 ?_
      repeat (first | refine ⟨_, mg_Fs rfl rfl, ?_⟩ | refine ⟨Or.inl rfl, ?_⟩ | refine ⟨Or.inr ⟨_, rfl⟩, ?_⟩ | refine ⟨fun _ => ?_, fun h => absurd h (by decide)⟩ | refine ⟨fun h => absurd h (by decide), fun _ => ?_⟩)
      refine mg_cv (k222) (by omega) ?_
      refine ⟨fun _ => ?_, fun q => absurd q (by decide)⟩
      repeat (first | refine ⟨_, mg_Fs rfl rfl, ?_⟩ | refine ⟨Or.inl rfl, ?_⟩ | refine ⟨Or.inr ⟨_, rfl⟩, ?_⟩ | refine ⟨fun _ => ?_, fun h => absurd h (by decide)⟩ | refine ⟨fun h => absurd h (by decide), fun _ => ?_⟩)
      refine mg_cv (r178n d hU.2.1) (by omega) ?_
      refine ⟨fun q => absurd rfl q, fun _ => ?_⟩
      repeat (first | refine ⟨_, mg_Fs rfl rfl, ?_⟩ | refine ⟨Or.inl rfl, ?_⟩ | refine ⟨Or.inr ⟨_, rfl⟩, ?_⟩ | refine ⟨fun _ => ?_, fun h => absurd h (by decide)⟩ | refine ⟨fun h => absurd h (by decide), fun _ => ?_⟩)
      refine mg_cv (r212 d hk 5) (by omega) ?_
      exact ⟨Or.inr rfl, ern hr⟩
    rw [if_neg e8] at hr
    have hK1 := k_nm_1 b1
    have hw := k_W_nm hp hK1
    have k221 := r221 (scr := scr) (t := t) d hN hk hp hK1 (at' := 26 + 8 * v) (by omega)
    rw [mg_26] at k221
    -- the variable is kept
    have st : ∀ Q : mg_Q, (∀ G4 : mg_G, uV G4 (mg_u N v (k_W l p)) (v + 1) → rPz G G4 → G4.2 = G.2 → mg_wp (mg_KM scr t) mc_244 (d + 800) 108 [some (.ref 148), some (.int (Int32.ofNat v))] [] G4 Q) → mg_wp (mg_KM scr t) mc_244 (d + 800) 42 [some (.ref 148), e1] [] G Q := fun Q g => by
      refine mg_go [108] 60 42 ms_244 ?_
      repeat (first | refine ⟨_, mg_Fs rfl rfl, ?_⟩ | refine ⟨Or.inl rfl, ?_⟩ | refine ⟨Or.inr ⟨_, rfl⟩, ?_⟩ | refine ⟨fun _ => ?_, fun h => absurd h (by decide)⟩ | refine ⟨fun h => absurd h (by decide), fun _ => ?_⟩)
      refine mg_cv (k222) (by omega) ?_
      refine ⟨fun _ => ?_, fun q => absurd q (by decide)⟩
      repeat (first | refine ⟨_, mg_Fs rfl rfl, ?_⟩ | refine ⟨Or.inl rfl, ?_⟩ | refine ⟨Or.inr ⟨_, rfl⟩, ?_⟩ | refine ⟨fun _ => ?_, fun h => absurd h (by decide)⟩ | refine ⟨fun h => absurd h (by decide), fun _ => ?_⟩)
      refine mg_cv (r178n d hU.2.1) (by omega) ?_
      refine ⟨fun _ => ?_, fun q => absurd ((mg_eqN (b := 8) (by omega) (by decide)).mp q) e8⟩
      repeat (first | refine ⟨_, mg_Fs rfl rfl, ?_⟩ | refine ⟨Or.inl rfl, ?_⟩ | refine ⟨Or.inr ⟨_, rfl⟩, ?_⟩ | refine ⟨fun _ => ?_, fun h => absurd h (by decide)⟩ | refine ⟨fun h => absurd h (by decide), fun _ => ?_⟩)
      refine mg_m_mono (k221) (by omega) ?_
      rintro o q G1 ⟨rfl, rfl, f, rfl, hNm, hfe⟩
      repeat (first | refine ⟨_, mg_Fs rfl rfl, ?_⟩ | refine ⟨Or.inl rfl, ?_⟩ | refine ⟨Or.inr ⟨_, rfl⟩, ?_⟩ | refine ⟨fun _ => ?_, fun h => absurd h (by decide)⟩ | refine ⟨fun h => absurd h (by decide), fun _ => ?_⟩)
      refine ⟨2232, 2 + v, rfl, mg_ixE (mg_addN 2 v) (by omega), by omega, ?_⟩
      repeat (first | refine ⟨_, mg_Fs rfl rfl, ?_⟩ | refine ⟨Or.inl rfl, ?_⟩ | refine ⟨Or.inr ⟨_, rfl⟩, ?_⟩ | refine ⟨fun _ => ?_, fun h => absurd h (by decide)⟩ | refine ⟨fun h => absurd h (by decide), fun _ => ?_⟩)
      refine ⟨2232, 18 + v, rfl, mg_ixE (mg_addN 18 v) (by omega), by omega, ?_⟩
      repeat (first | refine ⟨_, mg_Fs rfl rfl, ?_⟩ | refine ⟨Or.inl rfl, ?_⟩ | refine ⟨Or.inr ⟨_, rfl⟩, ?_⟩ | refine ⟨fun _ => ?_, fun h => absurd h (by decide)⟩ | refine ⟨fun h => absurd h (by decide), fun _ => ?_⟩)
      refine ⟨2232, 0, rfl, ⟨by decide, by decide⟩, by decide, ?_⟩
      have e : ∀ j, j ≠ 0 → j ≠ 18 + v → j ≠ 2 + v → (mg_sI (mg_sI (mg_sI (gM G 149 f) 149 (2 + v) (Int32.ofNat v)) 149 (18 + v) (Int32.ofNat 50)) 149 0 (Int32.ofNat v + Int32.ofInt 1)).1 149 j = f j := fun j j0 j1 j2 => (mg_sI_ne _ _ _ _ j0).trans ((mg_sI_ne _ _ _ _ j1).trans ((mg_sI_ne _ _ _ _ j2).trans (gM_at G 149 f j)))
      have hz : rPz G (mg_sI (mg_sI (mg_sI (gM G 149 f) 149 (2 + v) (Int32.ofNat v)) 149 (18 + v) (Int32.ofNat 50)) 149 0 (Int32.ofNat v + Int32.ofInt 1)) := ((((r0.u G (fun j hj => hfe j (by omega))).tr (r0.i _ _ (by omega))).tr (r0.i _ _ (by omega))).tr (r0.i _ _ (by omega))).z
      refine g (mg_sI (mg_sI (mg_sI (gM G 149 f) 149 (2 + v) (Int32.ofNat v)) 149 (18 + v) (Int32.ofNat 50)) 149 0 (Int32.ofNat v + Int32.ofInt 1)) ?_ hz rfl
      obtain ⟨a1, a2, a3, a4, a5, a6, a7, a8⟩ := hU
      refine ⟨by omega, (mg_sI_eq _ _ _ _).trans (mg_inc v), (e 1 (by decide) (by omega) (by omega)).trans ((hfe 1 (by omega)).trans a3), fun j hj => ?_, fun j hj => (e _ (by omega) (by omega) (by omega)).trans ((hfe _ (by omega)).trans (a5 j hj)), fun j hj => ?_, fun j hj => ?_, mg_u_N a8 ⟨hw.1, hw.2.1⟩⟩
      · by_cases ej : j = v
        · subst ej
          exact (mg_sI_ne _ _ _ _ (by omega)).trans ((mg_sI_ne _ _ _ _ (by omega)).trans (mg_sI_eq _ _ _ _))
        · exact (e _ (by omega) (by omega) (by omega)).trans ((hfe _ (by omega)).trans (a4 j (by omega)))
      · by_cases ej : j = v
        · subst ej
          exact (mg_sI_ne _ _ _ _ (by omega)).trans (mg_sI_eq _ _ _ _)
        · exact (e _ (by omega) (by omega) (by omega)).trans ((hfe _ (by omega)).trans (a6 j (by omega)))
      · show rNm _ _ (mg_u N v (k_W l p) j)
        by_cases ej : j = v
        · subst ej
          rw [mg_u_eq]
          exact ⟨(e _ (by omega) (by omega) (by omega)).trans ((gM_at G 149 f _).symm.trans hNm.1), fun i c hi => (e _ (by omega) (by omega) (by omega)).trans ((gM_at G 149 f _).symm.trans (hNm.2 i c hi))⟩
        · rw [mg_u_ne _ _ ej]
          have h7 := (a8 j (by omega)).1.2
          refine ⟨(e _ (by omega) (by omega) (by omega)).trans ((hfe _ (by omega)).trans (a7 j (by omega)).1), fun i c hi => ?_⟩
          have hi2 := (List.getElem?_eq_some_iff.mp hi).1
          exact (e _ (by omega) (by omega) (by omega)).trans ((hfe _ (by omega)).trans ((a7 j (by omega)).2 i c hi))
    refine st _ (fun G4 hU4 hz4 e42 => ?_)
    have hN4 : rIn G4 l := ⟨by rw [e42]; exact hN.1, hN.2.1, fun i c hi => by rw [hz4.1 152 (by decide) (by decide)]; exact hN.2.2 i c hi⟩
    have hk4 : rk G4 l p := by
      unfold rk at hk ⊢
      rw [e42]
      exact hk
    have hF4 := hF.tr hz4.t
    cases b4 : k_is l (k_E l p) 59 with
    | false =>
      rw [b4, if_neg (show ¬ (false = true) by decide)] at hr
      refine mg_go [42] 60 108 ms_244 ?_
      repeat (first | refine ⟨_, mg_Fs rfl rfl, ?_⟩ | refine ⟨Or.inl rfl, ?_⟩ | refine ⟨Or.inr ⟨_, rfl⟩, ?_⟩ | refine ⟨fun _ => ?_, fun h => absurd h (by decide)⟩ | refine ⟨fun h => absurd h (by decide), fun _ => ?_⟩)
      refine mg_m_mono (r210 d hN4 hE hk4.1) (by omega) ?_
      rintro o q G5 ⟨rfl, rfl, hk5, hf5⟩
      have hN5 := hf5.n hN4
      have ks := r214 (scr := scr) (t := t) d hN5 hk5 hE (c := 59) (by decide)
      rw [b4] at ks
      repeat (first | refine ⟨_, mg_Fs rfl rfl, ?_⟩ | refine ⟨Or.inl rfl, ?_⟩ | refine ⟨Or.inr ⟨_, rfl⟩, ?_⟩ | refine ⟨fun _ => ?_, fun h => absurd h (by decide)⟩ | refine ⟨fun h => absurd h (by decide), fun _ => ?_⟩)
      refine mg_cv (ks) (by omega) ?_
      refine ⟨fun _ => ?_, fun q => absurd rfl q⟩
      exact ih (mg_u N v (k_W l p)) (v + 1) (k_E l p) G5 _ (hU4.c (congrFun hf5.1 149)) (hF4.tr hf5.o.R.t) ((hf5.2.2.2.2 148 6 (by decide)).trans (by rw [e42]; exact g6)) ((hf5.2.2.2.2 148 7 (by decide)).trans (by rw [e42]; exact g7)) (fun v hv => by rw [hf5.2.1, e42]; exact hm v hv) hN5 hk5 hE (by omega) d r hr
    | true =>
      rw [b4, if_pos rfl] at hr
      refine mg_go [125] 60 108 ms_244 ?_
      repeat (first | refine ⟨_, mg_Fs rfl rfl, ?_⟩ | refine ⟨Or.inl rfl, ?_⟩ | refine ⟨Or.inr ⟨_, rfl⟩, ?_⟩ | refine ⟨fun _ => ?_, fun h => absurd h (by decide)⟩ | refine ⟨fun h => absurd h (by decide), fun _ => ?_⟩)
      refine mg_m_mono (r210 d hN4 hE hk4.1) (by omega) ?_
      rintro o q G5 ⟨rfl, rfl, hk5, hf5⟩
      have hN5 := hf5.n hN4
      have ks := r214 (scr := scr) (t := t) d hN5 hk5 hE (c := 59) (by decide)
      rw [b4] at ks
      repeat (first | refine ⟨_, mg_Fs rfl rfl, ?_⟩ | refine ⟨Or.inl rfl, ?_⟩ | refine ⟨Or.inr ⟨_, rfl⟩, ?_⟩ | refine ⟨fun _ => ?_, fun h => absurd h (by decide)⟩ | refine ⟨fun h => absurd h (by decide), fun _ => ?_⟩)
      refine mg_cv (ks) (by omega) ?_
      refine ⟨fun q => absurd q (by decide), fun _ => ?_⟩
      have hM5 : tM G0 G5 (vA (mg_u N v (k_W l p)) (v + 1)) l (k_E l p) := ⟨hF4.tr hf5.o.R.t, ⟨(hU4.c (congrFun hf5.1 149)).I (fun v hv => by rw [hf5.2.1, e42]; exact hm v hv) (by omega), hN5, hk5⟩, (hf5.2.2.2.2 148 6 (by decide)).trans (by rw [e42]; exact g6), (hf5.2.2.2.2 148 7 (by decide)).trans (by rw [e42]; exact g7)⟩
      repeat (first | refine ⟨_, mg_Fs rfl rfl, ?_⟩ | refine ⟨Or.inl rfl, ?_⟩ | refine ⟨Or.inr ⟨_, rfl⟩, ?_⟩ | refine ⟨fun _ => ?_, fun h => absurd h (by decide)⟩ | refine ⟨fun h => absurd h (by decide), fun _ => ?_⟩)
      refine mg_m_mono (r210M d hM5 hE) (by omega) ?_
      rintro o q G6 ⟨rfl, rfl, hM6⟩
      exact r244s _ 601 (vA (mg_u N v (k_W l p)) (v + 1)) 0 _ G6 hM6 (k_E_le hE) (by omega) d r hr
theorem r244 (d : Nat) (hm : ∀ v, v < 6 → G.2.1 154 v = a_m v) (hN : rIn G l) (hk : rk G l 0) {r : zEr ⊕ (a_A × Nat)} (hr : r = tY l) : mg_m (mg_KM scr t) (d + 801) 244 [.ref 148] G (rY9 G r) := by
  have hl6 := hN.2.1
  have hp : 0 ≤ l.length := Nat.zero_le _
  have hE := k_E_le hp
  refine mg_me [2, 22] 60 my_244 ms_244 (Nat.le_of_ble_eq_true rfl) ?_
  refine mg_loop 186 (fun k L G' => L = [some (.ref 148), some (.int (Int32.ofNat k))] ∧ G' = gM G 149 (fun j => if j < k then 0 else G.1 149 j)) ?_ ?_ _ _ ⟨rfl, ?_⟩
  · rintro k L G' hk2 ⟨rfl, rfl⟩ ih
    refine mg_go [2, 22] 60 2 ms_244 ?_
    refine ⟨fun h => absurd h (mg_nle (b := 186) hk2 (by decide)), fun _ => ?_⟩
    repeat (first | refine ⟨_, mg_Fs rfl rfl, ?_⟩ | refine ⟨Or.inl rfl, ?_⟩ | refine ⟨Or.inr ⟨_, rfl⟩, ?_⟩ | refine ⟨fun _ => ?_, fun h => absurd h (by decide)⟩ | refine ⟨fun h => absurd h (by decide), fun _ => ?_⟩)
    refine ⟨2232, k, rfl, mg_ixN (by omega), by omega, ih _ _ ⟨by rw [← mg_inc k], ?_⟩⟩
    refine (gM_u G 149 k _ _).trans (congrArg (gM G 149) ?_)
    funext j
    by_cases e : j = k
    · subst e
      rw [mg_u_eq, if_pos (by omega)]
      rfl
    · rw [mg_u_ne _ _ e]
      by_cases h : j < k
      · rw [if_pos h, if_pos (by omega)]
      · rw [if_neg h, if_neg (by omega)]
  · rintro L G' ⟨rfl, rfl⟩
    have hz : rPz G (gM G 149 (fun j => if j < 186 then 0 else G.1 149 j)) := (r0.u G (fun j hj => if_neg (by omega))).z
    have z0 : ∀ j, j < 186 → (gM G 149 (fun j => if j < 186 then 0 else G.1 149 j)).1 149 j = 0 := fun j hj => (gM_at G 149 _ j).trans (if_pos hj)
    have hU : uV (gM G 149 (fun j => if j < 186 then 0 else G.1 149 j)) (fun _ => []) 0 := ⟨by decide, z0 0 (by decide), z0 1 (by decide), fun j hj => absurd hj (Nat.not_lt_zero _), fun j hj => z0 _ (by omega), fun j hj => absurd hj (Nat.not_lt_zero _), fun j hj => absurd hj (Nat.not_lt_zero _), fun j hj => absurd hj (Nat.not_lt_zero _)⟩
    have hN1 : rIn (gM G 149 (fun j => if j < 186 then 0 else G.1 149 j)) l := ⟨hN.1, hN.2.1, fun i c hi => (gM_na G _ (show (152 : Nat) ≠ 149 by decide) i).trans (hN.2.2 i c hi).1 |> fun h => ⟨h, (hN.2.2 i c hi).2⟩⟩
    have hk1 : rk (gM G 149 (fun j => if j < 186 then 0 else G.1 149 j)) l 0 := hk
    have kw := r213c (scr := scr) (t := t) d hN1 hk1 hp (a := 45) (by unfold k_ok; omega) (by decide) (b := 28) k_str_45
    have go22 : mg_wp (mg_KM scr t) mc_244 (d + 800) 22 [some (.ref 148), some (.int (Int32.ofNat 186))] [] (gM G 149 (fun j => if j < 186 then 0 else G.1 149 j)) (rY9 G r) := by
      unfold tY at hr
      cases b : k_wd l 0 (k_str 28) with
      | false =>
        rw [b] at kw
        rw [b, if_neg (show ¬ (false = true) by decide)] at hr
        subst hr
        refine mg_go [42] 60 22 ms_244 ?_
        repeat (first | refine ⟨_, mg_Fs rfl rfl, ?_⟩ | refine ⟨Or.inl rfl, ?_⟩ | refine ⟨Or.inr ⟨_, rfl⟩, ?_⟩ | refine ⟨fun _ => ?_, fun h => absurd h (by decide)⟩ | refine ⟨fun h => absurd h (by decide), fun _ => ?_⟩)
        refine mg_cv (kw) (by omega) ?_
        refine ⟨fun q => absurd rfl q, fun _ => ?_⟩
        repeat (first | refine ⟨_, mg_Fs rfl rfl, ?_⟩ | refine ⟨Or.inl rfl, ?_⟩ | refine ⟨Or.inr ⟨_, rfl⟩, ?_⟩ | refine ⟨fun _ => ?_, fun h => absurd h (by decide)⟩ | refine ⟨fun h => absurd h (by decide), fun _ => ?_⟩)
        refine mg_cv (r212 d hk1 1) (by omega) ?_
        exact ⟨Or.inr rfl, rfl, hz.t.tr (zX_R _ 1 l 0).t, rfl, (mg_sF_ne _ _ (by decide)).trans (mg_sF_at _ _ _ _), mg_sF_at _ _ _ _⟩
      | true =>
        rw [b] at kw
        rw [b, if_pos rfl] at hr
        refine mg_go [42] 60 22 ms_244 ?_
        repeat (first | refine ⟨_, mg_Fs rfl rfl, ?_⟩ | refine ⟨Or.inl rfl, ?_⟩ | refine ⟨Or.inr ⟨_, rfl⟩, ?_⟩ | refine ⟨fun _ => ?_, fun h => absurd h (by decide)⟩ | refine ⟨fun h => absurd h (by decide), fun _ => ?_⟩)
        refine mg_cv (kw) (by omega) ?_
        refine ⟨fun _ => ?_, fun q => absurd q (by decide)⟩
        repeat (first | refine ⟨_, mg_Fs rfl rfl, ?_⟩ | refine ⟨Or.inl rfl, ?_⟩ | refine ⟨Or.inr ⟨_, rfl⟩, ?_⟩ | refine ⟨fun _ => ?_, fun h => absurd h (by decide)⟩ | refine ⟨fun h => absurd h (by decide), fun _ => ?_⟩)
        refine mg_m_mono (r210 d hN1 hE hk1.1) (by omega) ?_
        rintro o q G2 ⟨rfl, rfl, hk2, hf2⟩
        exact r244v 10 (fun _ => []) 0 (k_E l 0) G2 _ (hU.c (congrFun hf2.1 149)) (hz.t.tr hf2.o.R.t) (hf2.2.2.2.2 148 6 (by decide)) (hf2.2.2.2.2 148 7 (by decide)) (fun v hv => by rw [hf2.2.1]; exact hm v hv) (hf2.n hN1) hk2 hE (by decide) d r hr
    refine mg_go [22] 60 2 ms_244 ?_
    exact ⟨fun _ => go22, fun h => absurd h (by decide)⟩
  · show G = gM G 149 _
    rw [show (fun j => if j < 0 then 0 else G.1 149 j) = G.1 149 from funext fun j => if_neg (Nat.not_lt_zero j)]
    show G = (mg_u G.1 149 (G.1 149), G.2)
    rw [mg_u_id]
end RM
