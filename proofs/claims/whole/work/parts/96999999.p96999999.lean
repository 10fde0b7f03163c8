/-! SYSTEMS: variables are declared -/
/-- the state with v variables of these names, no function -/
def vA (N : Nat → List Nat) (v : Nat) : a_A := (v, 0, fun j => j, fun _ => 0, fun _ => Int32.ofNat 50, N, fun _ => [], fun _ => a_zero)
theorem vA_W {N : Nat → List Nat} {v : Nat} (h1 : 1 ≤ v) (h8 : v ≤ 8) (hN : ∀ i, i < v → a_nm7 (N i) ∧ N i ≠ []) : aW (vA N v) :=
  ⟨h1, ⟨fun j hj => hj, fun w hw => ⟨w, hw, rfl⟩, fun i j _ _ e => e, h8⟩, Nat.zero_le _, fun f hf => absurd hf (Nat.not_lt_zero f), hN, fun f hf => absurd hf (Nat.not_lt_zero f), fun _ _ => ⟨50, by decide, rfl⟩⟩
def tD (l : List Nat) : Nat → (Nat → List Nat) → Nat → Nat → sR
  | 0, _, _, _ => .inl (0, 0)
  | n + 1, N, v, p => if k_nm l p = true then (if t_nw (vA N v) l p = true then (if v = 8 then .inl (5, k_S l p) else if k_is l (k_E l p) 59 = true then .inr (vA (mg_u N v (k_W l p)) (v + 1), k_E l (k_E l p)) else tD l n (mg_u N v (k_W l p)) (v + 1) (k_E l p)) else .inl (4, k_S l p)) else .inl (1, k_S l p)
/-- what follows a declaration -/
def tX (l : List Nat) (r : sR) : zEr ⊕ (a_A × Nat) := match r with
  | .inl e => .inl e
  | .inr x => tL false l 601 x.1 0 x.2
def tY (l : List Nat) : zEr ⊕ (a_A × Nat) := if k_wd l 0 (k_str 28) = true then tX l (tD l 10 (fun _ => []) 0 (k_E l 0)) else .inl (1, k_S l 0)
theorem k_str_45 : k_str 45 = k_str 28 := by decide
/-- names that are there stay -/
theorem mg_u_N {N : Nat → List Nat} {v : Nat} {w : List Nat} (hN : ∀ i, i < v → a_nm7 (N i) ∧ N i ≠ []) (hw : a_nm7 w ∧ w ≠ []) : ∀ i, i < v + 1 → a_nm7 (mg_u N v w i) ∧ mg_u N v w i ≠ [] := fun i hi => by
  by_cases e : i = v
  · subst e
    rw [mg_u_eq]
    exact hw
  · rw [mg_u_ne _ _ e]
    exact hN i (by omega)
section RM
variable {scr : Nat × (Nat → Int32)} {t : List mg_S} {G G0 : mg_G} {A : a_A} {l : List Nat} {p : Nat}
/-- block 0 while variables are declared -/
def uV (G : mg_G) (N : Nat → List Nat) (v : Nat) : Prop := v ≤ 8 ∧ G.1 149 0 = Int32.ofNat v ∧ G.1 149 1 = Int32.ofNat 0 ∧ (∀ j, j < v → G.1 149 (2 + j) = Int32.ofNat j) ∧ (∀ j, j < 8 → G.1 149 (10 + j) = 0) ∧ (∀ j, j < v → G.1 149 (18 + j) = Int32.ofNat 50) ∧ (∀ j, j < v → rNm G (26 + 8 * j) (N j)) ∧ ∀ j, j < v → a_nm7 (N j) ∧ N j ≠ []
theorem uV.V9 {N : Nat → List Nat} {v : Nat} (h : uV G N v) : rV9 G (vA N v) := ⟨h.1, Nat.zero_le _, h.2.1, h.2.2.1, fun j hj => ⟨h.2.2.2.2.2.2.1 j hj, (h.2.2.2.2.2.2.2 j hj).1⟩, fun f hf => absurd hf (Nat.not_lt_zero f)⟩
theorem uV.I {N : Nat → List Nat} {v : Nat} (h : uV G N v) (hm : ∀ v, v < 6 → G.2.1 154 v = a_m v) (h1 : 1 ≤ v) : rI G (vA N v) := by
  obtain ⟨a1, a2, a3, a4, a5, a6, a7, a8⟩ := h
  exact ⟨hm, bA0 a2 a3 a4 (fun j hj => by have hj : j < v := hj; exact a5 j (by omega)) a6 a7 (fun f hf => absurd hf (Nat.not_lt_zero f)) (fun f hf => absurd hf (Nat.not_lt_zero f)), vA_W h1 a1 a8⟩
theorem uV.c {G' : mg_G} {N : Nat → List Nat} {v : Nat} (h : uV G N v) (e : G'.1 149 = G.1 149) : uV G' N v := by
  unfold uV rNm at h ⊢
  rw [e]
  exact h
/-- the end of a system's reading: 0 or 1 -/
def rY9 (G0 : mg_G) (r : zEr ⊕ (a_A × Nat)) : mg_Q := fun o q G => q = 0 ∧ tF G0 G ∧ match r with
  | .inl e => o = .inl (some (.int 0)) ∧ G.2.2.2.2 148 6 = .int e.1 ∧ G.2.2.2.2 148 7 = .int (Int32.ofNat e.2)
  | .inr x => o = .inl (some (.int 1)) ∧ rI G x.1 ∧ G.2.2.2.2 148 6 = G0.2.2.2.2 148 6 ∧ G.2.2.2.2 148 7 = G0.2.2.2.2 148 7
theorem r244s (e1 : Option Value) : ∀ n (A : a_A) many p (G : mg_G), tM G0 G A l p → p ≤ l.length → l.length - p < n → ∀ d (r : zEr ⊕ (a_A × Nat)), r = tL false l n A many p → mg_wp (mg_KM scr t) mc_244 (d + 800) 125 [some (.ref 148), e1] [] G (rY9 G0 r) := by
  intro n
  induction n with
  | zero => exact fun A many p G hM hp hn d r hr => absurd hn (Nat.not_lt_zero _)
  | succ n ih =>
    intro A many p G hM hp hn d r hr
    have hk := hM.2.1.2.2
    have hN := hM.2.1.2.1
    have hW := hM.2.1.1.W
    have hl6 := hN.2.1
    have hK4 := k_K4 l p
    by_cases h0 : k_K l p = 0
    · rw [tL_0 h0] at hr
      subst hr
      refine mg_go [125] 60 125 ms_244 ?_
      refine ⟨_, mg_Fe hk.2.1 rfl rfl, fun _ => ?_, fun q => absurd (by rw [h0]; rfl) q⟩
      exact ⟨Or.inr rfl, rfl, hM.1, rfl, hM.2.1.1, hM.2.2.1, hM.2.2.2⟩
    · rw [tL_s h0] at hr
      have kz : ¬ Int32.ofNat (k_K l p) = 0 := fun q => h0 ((mg_eqN (b := 0) (by omega) (by decide)).mp q)
      have ks := r243 (scr := scr) (t := t) d hN hk hp
      have ern : ∀ {c : Int32}, tO false A l many p = .inl (c, k_S l p) → rY9 G0 r (.inl (some (.int 0))) 0 (zX G c l p) := fun {c} e => by
        rw [e] at hr
        subst hr
        have := hM.x c
        exact ⟨rfl, this.2.1, rfl, this.2.2.2.1, this.2.2.2.2⟩
      by_cases hdf : k_df l p = true
      · obtain ⟨k, hkd, h3⟩ : ∃ k, k_kd l p = some k ∧ k < 3 := by
          cases e : k_kd l p with
          | none => rw [(k_kd_no e).1] at hdf; cases hdf
          | some k =>
            rw [k_kd_df e] at hdf
            exact ⟨k, rfl, of_decide_eq_true hdf⟩
        rw [hdf] at ks
        have e : tO false A l many p = tE l (tC A l p k) := by
          unfold tO
          rw [hkd]
          exact (if_neg (fun z => by have := z.2; omega)).trans (if_neg (fun z => absurd z.1 (by decide)))
        have kc : mg_m (mg_KM scr t) (d + 790) 242 [.ref 148] G (rD G l (tC A l p k)) := by
          by_cases h0 : k = 0
          · subst h0
            exact r242f d hM.2.1 hp hkd
          · exact mg_m_mono (r242n d hM.2.1 hp hkd (by omega)) (by omega) (fun _ _ _ w => w)
        have st : ∀ Q : mg_Q, (∀ o q G1, rD G l (tC A l p k) o q G1 → (∃ b : Bool, o = .inl (some (.int (b2 b))) ∧ q = 0 ∧ mg_wp (mg_KM scr t) mc_244 (d + 800) 149 [some (.ref 148), e1] [.int (b2 b)] G1 Q)) → mg_wp (mg_KM scr t) mc_244 (d + 800) 125 [some (.ref 148), e1] [] G Q := fun Q g => by
          refine mg_go [149] 60 125 ms_244 ?_
          refine ⟨_, mg_Fe hk.2.1 rfl rfl, fun q => absurd q kz, fun _ => ?_⟩
          repeat (first | refine ⟨_, mg_Fs rfl rfl, ?_⟩ | refine ⟨Or.inl rfl, ?_⟩ | refine ⟨Or.inr ⟨_, rfl⟩, ?_⟩ | refine ⟨fun _ => ?_, fun h => absurd h (by decide)⟩ | refine ⟨fun h => absurd h (by decide), fun _ => ?_⟩)
          refine mg_cv (ks) (by omega) ?_
          refine ⟨fun _ => ?_, fun q => absurd q (by decide)⟩
          repeat (first | refine ⟨_, mg_Fs rfl rfl, ?_⟩ | refine ⟨Or.inl rfl, ?_⟩ | refine ⟨Or.inr ⟨_, rfl⟩, ?_⟩ | refine ⟨fun _ => ?_, fun h => absurd h (by decide)⟩ | refine ⟨fun h => absurd h (by decide), fun _ => ?_⟩)
          refine mg_m_mono (kc) (by omega) ?_
          rintro o q G1 w
          obtain ⟨b, rfl, rfl, w2⟩ := g o q G1 w
          exact w2
        refine st _ (fun o q G1 w => ?_)
        rcases ec : tC A l p k with e9 | x
        · rw [ec] at w e
          obtain ⟨rfl, a2, rfl, a4, a5⟩ := w
          refine ⟨false, rfl, rfl, ?_⟩
          rw [show tO false A l many p = .inl e9 from e] at hr
          subst hr
          refine mg_go [125] 60 149 ms_244 ?_
          refine ⟨fun _ => ?_, fun q => absurd rfl q⟩
          exact ⟨Or.inr rfl, rfl, hM.1.tr a2, rfl, a4, a5⟩
        · obtain ⟨A', q9⟩ := x
          rw [ec] at w e
          obtain ⟨rfl, a2, rfl, a4, a5, a6⟩ := w
          refine ⟨true, rfl, rfl, ?_⟩
          have hq9 := (tC_ok hW hl6 hp hkd ec).2
          have hM1 : tM G0 G1 A' l q9 := ⟨hM.1.tr a2, a4, a5.trans hM.2.2.1, a6.trans hM.2.2.2⟩
          cases b : k_is l q9 59 with
          | false =>
            rw [show tO false A l many p = .inl (1, k_S l q9) from e.trans (if_neg (by rw [b]; decide))] at hr
            subst hr
            refine mg_go [125] 60 149 ms_244 ?_
            refine ⟨fun q => absurd q (by decide), fun _ => ?_⟩
            repeat (first | refine ⟨_, mg_Fs rfl rfl, ?_⟩ | refine ⟨Or.inl rfl, ?_⟩ | refine ⟨Or.inr ⟨_, rfl⟩, ?_⟩ | refine ⟨fun _ => ?_, fun h => absurd h (by decide)⟩ | refine ⟨fun h => absurd h (by decide), fun _ => ?_⟩)
            refine mg_cv (r215x d hM1.2.1.2.1 hM1.2.1.2.2 hq9.2 (c := 59) (by decide) b) (by omega) ?_
            refine ⟨fun q => absurd rfl q, fun _ => ?_⟩
            have := hM1.x 1
            exact ⟨Or.inr rfl, rfl, this.2.1, rfl, this.2.2.2.1, this.2.2.2.2⟩
          | true =>
            rw [show tO false A l many p = .inr (A', k_E l q9) from e.trans (if_pos b)] at hr
            have a7 := k_S_ge l q9
            have a8 := k_E_ge l q9
            refine mg_go [125] 60 149 ms_244 ?_
            refine ⟨fun q => absurd q (by decide), fun _ => ?_⟩
            repeat (first | refine ⟨_, mg_Fs rfl rfl, ?_⟩ | refine ⟨Or.inl rfl, ?_⟩ | refine ⟨Or.inr ⟨_, rfl⟩, ?_⟩ | refine ⟨fun _ => ?_, fun h => absurd h (by decide)⟩ | refine ⟨fun h => absurd h (by decide), fun _ => ?_⟩)
            refine mg_m_mono (r215y d hM1.2.1.2.1 hM1.2.1.2.2 hq9.2 (c := 59) (by decide) b) (by omega) ?_
            rintro o q G2 ⟨rfl, rfl, hk2, hf2⟩
            refine ⟨fun _ => ?_, fun q => absurd q (by decide)⟩
            exact ih A' (many + 1) (k_E l q9) G2 (hM1.t hk2 hf2) (k_E_le hq9.2) (by omega) d r hr
      · have hdf : k_df l p = false := by cases h : k_df l p with | false => rfl | true => exact absurd h hdf
        have e : tO false A l many p = .inl (1, k_S l p) := by
          unfold tO
          cases e : k_kd l p with
          | none => rfl
          | some k =>
            rw [k_kd_df e] at hdf
            exact if_pos ⟨rfl, by have := of_decide_eq_false hdf; omega⟩
        rw [hdf] at ks
        refine mg_go [125] 60 125 ms_244 ?_
        refine ⟨_, mg_Fe hk.2.1 rfl rfl, fun q => absurd q kz, fun _ => ?_⟩
        repeat (first | refine ⟨_, mg_Fs rfl rfl, ?_⟩ | refine ⟨Or.inl rfl, ?_⟩ | refine ⟨Or.inr ⟨_, rfl⟩, ?_⟩ | refine ⟨fun _ => ?_, fun h => absurd h (by decide)⟩ | refine ⟨fun h => absurd h (by decide), fun _ => ?_⟩)
        refine mg_cv (ks) (by omega) ?_
        refine ⟨fun q => absurd rfl q, fun _ => ?_⟩
        repeat (first | refine ⟨_, mg_Fs rfl rfl, ?_⟩ | refine ⟨Or.inl rfl, ?_⟩ | refine ⟨Or.inr ⟨_, rfl⟩, ?_⟩ | refine ⟨fun _ => ?_, fun h => absurd h (by decide)⟩ | refine ⟨fun h => absurd h (by decide), fun _ => ?_⟩)
        refine mg_cv (r212 d hk 1) (by omega) ?_
        exact ⟨Or.inr rfl, ern e⟩
end RM
