/-! THE LAW'S TABLES: remember, back, add -/
section TR
variable {scr : Nat × (Nat → Int32)} {t : List mg_S} {G : mg_G} {n : Nat} {A : a_A} {U : List a_A}
theorem t179 (d : Nat) (h : tR n G A U) : mg_m (mg_KT scr n t) (d + 1) 179 [.ref 148] G (fun o q G' => o = .inl none ∧ q = 0 ∧ tR n G' A (a_push U A) ∧ tFr G G') := by
  obtain ⟨h1, h2, h3, h4, h5, h6⟩ := id h
  unfold a_push
  by_cases e : U.length = 8
  · rw [if_pos e]
    obtain ⟨B0, V, rfl⟩ : ∃ B0 V, U = B0 :: V := by
      cases U with
      | nil => cases e
      | cons B0 V => exact ⟨B0, V, rfl⟩
    have eV : V.length = 7 := by simp only [List.length_cons] at e; omega
    rw [e] at h3
    refine mg_me [11] 20 my_179 ms_179 (Nat.le_of_ble_eq_true rfl) ?_
    refine ⟨_, mg_Fe h3 rfl rfl, ?_⟩
    refine ⟨fun q => absurd rfl q, fun _ => ?_⟩
    refine mg_loop 84 (fun k L G' => L = [some (.ref 148), some (.int (Int32.ofNat k))] ∧ tJ 150 G G' ∧ (∀ i, i < k → G'.2.1 150 i = G.2.1 150 (i + 12)) ∧ ∀ i, k ≤ i → G'.2.1 150 i = G.2.1 150 i) ?_ ?_ _ _ ⟨rfl, tJ.rf _ _, fun f hf => absurd hf (Nat.not_lt_zero f), fun _ _ => rfl⟩
    · rintro k L G' hk ⟨rfl, g1, g2, g3⟩ ih
      refine mg_go [11] 60 11 ms_179 ?_
      refine ⟨fun h => absurd h (mg_nle (b := 84) hk (by decide)), fun _ => ?_⟩
      refine ⟨_, mg_Fs rfl rfl, _, mg_Fs rfl rfl, 96, _, k + 12, mg_Al rfl (by decide), mg_ixE (tz_p12 k) (by omega), by omega, ?_⟩
      refine ⟨96, k, rfl, mg_ixN (by omega), by omega, ?_⟩
      refine ih _ _ ⟨by rw [← mg_inc k], g1.s _ _, fun i hi => ?_, fun i hi => ?_⟩
      · show mg_u2 G'.2.1 150 k (G'.2.1 150 (k + 12)) 150 i = _
        rw [mg_u2_at, g3 (k + 12) (by omega)]
        by_cases e9 : i = k
        · subst e9
          rw [if_pos ⟨rfl, rfl⟩]
        · rw [if_neg (by omega)]
          exact g2 i (by omega)
      · show mg_u2 G'.2.1 150 k (G'.2.1 150 (k + 12)) 150 i = _
        rw [mg_u2_at, if_neg (by omega)]
        exact g3 i (by omega)
    · rintro L G1 ⟨rfl, f1, f2, f3⟩
      refine mg_go [40] 60 11 ms_179 ?_
      refine ⟨fun _ => ?_, fun h => absurd h (by decide)⟩
      refine mg_loop 7 (fun k L G' => L = [some (.ref 148), some (.int (Int32.ofNat k))] ∧ tIw 151 G1 G' ∧ (∀ i, i < k → G'.1 151 i = G1.1 151 (i + 1)) ∧ ∀ i, k ≤ i → G'.1 151 i = G1.1 151 i) ?_ ?_ _ _ ⟨rfl, tIw.rf _ _, fun f hf => absurd hf (Nat.not_lt_zero f), fun _ _ => rfl⟩
      · rintro k L G' hk ⟨rfl, g1, g2, g3⟩ ih
        refine mg_go [40] 60 40 ms_179 ?_
        refine ⟨fun h => absurd h (mg_nle (b := 7) hk (by decide)), fun _ => ?_⟩
        refine ⟨_, mg_Fs rfl rfl, _, mg_Fs rfl rfl, 8, _, k + 1, mg_Ai rfl (by decide), mg_ixE (mg_inc k) (by omega), by omega, ?_⟩
        refine ⟨8, k, rfl, mg_ixN (by omega), by omega, ?_⟩
        refine ih _ _ ⟨by rw [← mg_inc k], g1.s _ _, fun i hi => ?_, fun i hi => ?_⟩
        · show mg_u2 G'.1 151 k (G'.1 151 (k + 1)) 151 i = _
          rw [mg_u2_at, g3 (k + 1) (by omega)]
          by_cases e9 : i = k
          · subst e9
            rw [if_pos ⟨rfl, rfl⟩]
          · rw [if_neg (by omega)]
            exact g2 i (by omega)
        · show mg_u2 G'.1 151 k (G'.1 151 (k + 1)) 151 i = _
          rw [mg_u2_at, if_neg (by omega)]
          exact g3 i (by omega)
      · rintro L G2 ⟨rfl, g1, g2, g3⟩
        have c6 : G2.2.2.2.2 148 6 = .int (Int32.ofNat 8) := by rw [g1.2, f1.2.2]; exact h3
        refine mg_go [76] 60 40 ms_179 ?_
        refine ⟨fun _ => ?_, fun h => absurd h (by decide)⟩
        refine ⟨_, mg_Fe c6 rfl rfl, rfl, _, rfl, rfl, ?_⟩
        have fr2 : tFr G (mg_sF G2 148 6 (.int (Int32.ofNat 8 - Int32.ofInt 1))) := ((f1.fr.mono (fun a ha => by omega)).tr (g1.fr.mono (fun a ha => by omega))).tr (mg_fr.sF _ _ _ (show (fun b => b = 148 ∨ b = 149 ∨ b = 150 ∨ b = 151) 148 by omega))
        refine t179b d fr2 ⟨?_, h2, ?_, ?_, fun f hf => ?_, fun i B hi => ?_⟩ (by show V.length < 8; omega)
        · refine (mg_sF_ne _ _ (by decide)).trans ?_
          rw [g1.2, f1.2.2]
          exact h1
        · show _ = Value.int (Int32.ofNat V.length)
          rw [eV]
          exact (mg_sF_at _ _ _ _).trans (congrArg Value.int (by decide))
        · show V.length ≤ 8
          omega
        · show G2.2.1 149 f = _
          rw [g1.2, f1.2.1 149 (by decide)]
          exact h5 f hf
        · have hi : V[i]? = some B := hi
          have hlt := (List.getElem?_eq_some_iff.mp hi).1
          obtain ⟨q1, q2, q3⟩ := h6 (i + 1) B hi
          refine ⟨q1, ?_, fun f hf => ?_⟩
          · show G2.1 151 i = _
            rw [g2 i (by omega), f1.1]
            exact q2
          · show G2.2.1 150 (12 * i + f) = _
            rw [g1.2, f2 _ (by omega), show 12 * i + f + 12 = 12 * (i + 1) + f by omega]
            exact q3 f hf
  · rw [if_neg e]
    refine mg_me [76] 20 my_179 ms_179 (Nat.le_of_ble_eq_true rfl) ?_
    refine ⟨_, mg_Fe h3 rfl rfl, ?_⟩
    refine ⟨fun _ => ?_, fun q => absurd ((mg_eqN (b := 8) (by omega) (by decide)).mp q) e⟩
    exact t179b d (mg_fr.rf _ _) h (by omega)
theorem t180 (d : Nat) {B : a_A} (h : tR n G A (U ++ [B])) : mg_m (mg_KT scr n t) (d + 1) 180 [.ref 148] G (fun o q G' => o = .inl none ∧ q = 0 ∧ tR n G' B U ∧ tFr G G') := by
  obtain ⟨h1, h2, h3, h4, h5, h6⟩ := h
  rw [List.length_append, List.length_singleton] at h3 h4
  have hB : (U ++ [B])[U.length]? = some B := by
    rw [List.getElem?_append_right (Nat.le_refl _), Nat.sub_self]
    rfl
  obtain ⟨b1, b2, b3⟩ := h6 _ _ hB
  refine mg_me [12] 20 my_180 ms_180 (Nat.le_of_ble_eq_true rfl) ?_
  refine ⟨_, mg_Fe h3 rfl rfl, rfl, _, rfl, rfl, ?_⟩
  refine mg_loop 12 (fun k L G' => L = [some (.ref 148), some (.int (Int32.ofNat k))] ∧ tJ 149 (mg_sF G 148 6 (.int (Int32.ofNat (U.length + 1) - Int32.ofInt 1))) G' ∧ (∀ f, f < k → G'.2.1 149 f = G.2.1 150 (12 * U.length + f))) ?_ ?_ _ _ ⟨rfl, tJ.rf _ _, fun f hf => absurd hf (Nat.not_lt_zero f)⟩
  · rintro k L G' hk ⟨rfl, g1, g2⟩ ih
    have e6 : G'.2.2.2.2 148 6 = .int (Int32.ofNat U.length) := by rw [g1.2.2]; exact (mg_sF_at _ _ _ _).trans (congrArg Value.int (mg_dec _))
    refine mg_go [12] 60 12 ms_180 ?_
    refine ⟨fun h => absurd h (mg_nle (b := 12) hk (by decide)), fun _ => ?_⟩
    refine ⟨_, mg_Fs rfl rfl, _, mg_Fs rfl rfl, _, mg_Fe e6 rfl rfl, 96, _, 12 * U.length + k, mg_Al rfl (by decide), mg_ixE (tz_12 _ _) (by omega), by omega, ?_⟩
    refine ⟨12, k, rfl, mg_ixN (by omega), hk, ?_⟩
    refine ih _ _ ⟨by rw [← mg_inc k], g1.s _ _, fun f hf => ?_⟩
    show mg_u2 G'.2.1 149 k (G'.2.1 150 (12 * U.length + k)) 149 f = _
    rw [mg_u2_at, g1.2.1 150 (by decide)]
    by_cases e9 : f = k
    · subst e9
      rw [if_pos ⟨rfl, rfl⟩]
    · rw [if_neg (by omega)]
      exact g2 f (by omega)
  · rintro L G' ⟨rfl, g1, g2⟩
    have e6 : G'.2.2.2.2 148 6 = .int (Int32.ofNat U.length) := by rw [g1.2.2]; exact (mg_sF_at _ _ _ _).trans (congrArg Value.int (mg_dec _))
    refine mg_go [] 60 12 ms_180 ?_
    refine ⟨fun _ => ?_, fun h => absurd h (by decide)⟩
    refine ⟨_, mg_Fs rfl rfl, _, mg_Fe e6 rfl rfl, 8, _, U.length, mg_Ai rfl (by decide), mg_ixN (by omega), by omega, ?_⟩
    refine ⟨rfl, _, rfl, rfl, ?_⟩
    have k1 : G'.1 151 U.length = Int32.ofNat (aF B) := by rw [g1.1]; exact b2
    refine ⟨rfl, rfl, ⟨(mg_sF_at _ _ _ _).trans (congrArg Value.int k1), b1, (mg_sF_ne _ _ (by decide)).trans e6, by omega, fun f hf => ?_, fun i C hi => ?_⟩, ?_⟩
    · show G'.2.1 149 f = _
      rw [g2 f (by omega)]
      exact b3 f hf
    · have hlt := (List.getElem?_eq_some_iff.mp hi).1
      obtain ⟨q1, q2, q3⟩ := h6 i C (by rw [List.getElem?_append_left hlt]; exact hi)
      refine ⟨q1, ?_, fun f hf => ?_⟩
      · show G'.1 151 i = _
        rw [g1.1]
        exact q2
      · show G'.2.1 150 (12 * i + f) = _
        rw [g1.2.1 150 (by decide)]
        exact q3 f hf
    · exact ((mg_fr.sF G 6 (.int (Int32.ofNat (U.length + 1) - Int32.ofInt 1)) (show (fun b => b = 148 ∨ b = 149 ∨ b = 150 ∨ b = 151) 148 by omega)).tr (g1.fr.mono (fun a ha => by omega))).tr (mg_fr.sF _ _ _ (show (fun b => b = 148 ∨ b = 149 ∨ b = 150 ∨ b = 151) 148 by omega))
theorem t181 (d : Nat) (h : tR n G A U) (h12 : aF A < 12) {T : a_T} {x : Int64} (hx : x &&& tt_M n = tt n T) : mg_m (mg_KT scr n t) (d + 2) 181 [.ref 148, .long x] G (fun o q G' => o = .inl none ∧ q = 0 ∧ tR n G' (addF A [] T) (a_push U A) ∧ tFr G G') := by
  refine mg_me [] 20 my_181 ms_181 (Nat.le_of_ble_eq_true rfl) ?_
  refine ⟨Or.inr ⟨_, rfl⟩, ?_⟩
  refine mg_m_mono (t179 d h) (by omega) ?_
  rintro o q G1 ⟨rfl, rfl, ⟨h1, h2, h3, h4, h5, h6⟩, f1⟩
  refine ⟨_, mg_Fs rfl rfl, _, mg_Fe h1 rfl rfl, _, mg_Fs rfl rfl, ?_⟩
  refine ⟨12, aF A, rfl, mg_ixN (by omega), h12, ?_⟩
  refine ⟨_, mg_Fe h1 rfl rfl, rfl, _, rfl, rfl, ?_⟩
  refine ⟨rfl, rfl, ⟨(mg_sF_at _ _ _ _).trans (congrArg Value.int (mg_inc _)), by show aF A + 1 ≤ 12; omega, (mg_sF_ne _ _ (by decide)).trans h3, h4, fun f hf => ?_, fun i B hi => ?_⟩, ?_⟩
  · show mg_u2 G1.2.1 149 (aF A) (x &&& tt_M n) 149 f = tt n (mg_u (aT A) (aF A) T f)
    rw [mg_u2_at, hx]
    by_cases e : f = aF A
    · subst e
      rw [if_pos ⟨rfl, rfl⟩, mg_u_eq]
    · have hf : f < aF A + 1 := hf
      rw [if_neg (by omega), mg_u_ne _ _ e]
      exact h5 f (by omega)
  · obtain ⟨q1, q2, q3⟩ := h6 i B hi
    refine ⟨q1, q2, fun f hf => ?_⟩
    show mg_u2 G1.2.1 149 (aF A) (x &&& tt_M n) 150 (12 * i + f) = _
    rw [mg_u2_at, if_neg (by omega)]
    exact q3 f hf
  · exact (f1.tr (mg_fr.sJ _ _ _ (show (fun b => b = 148 ∨ b = 149 ∨ b = 150 ∨ b = 151) 149 by omega))).tr (mg_fr.sF _ _ _ (show (fun b => b = 148 ∨ b = 149 ∨ b = 150 ∨ b = 151) 148 by omega))
end TR
