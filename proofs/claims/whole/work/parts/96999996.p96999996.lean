/-! STATEMENTS up to the text's end -/
theorem tL_0 {sc : Bool} {l : List Nat} {n : Nat} {A : a_A} {many p : Nat} (h : k_K l p = 0) : tL sc l (n + 1) A many p = .inr (A, many) := by
  show (if k_K l p = 0 then _ else _) = _
  rw [if_pos h]
theorem tL_s {sc : Bool} {l : List Nat} {n : Nat} {A : a_A} {many p : Nat} (h : k_K l p ≠ 0) : tL sc l (n + 1) A many p = (match tO sc A l many p with
  | .inl e => .inl e
  | .inr x => tL sc l n x.1 (many + 1) x.2) := by
  show (if k_K l p = 0 then _ else _) = _
  rw [if_neg h]
  cases tO sc A l many p <;> rfl
theorem tO_ok {sc : Bool} {A : a_A} (hW : aW A) {l : List Nat} (hl : l.length ≤ 600) {many p : Nat} (hp : p ≤ l.length) {A' : a_A} {q : Nat} (h : tO sc A l many p = .inr (A', q)) : aW A' ∧ p < q ∧ q ≤ l.length ∧ (sc = true → many ≠ 30) := by
  unfold tO at h
  split at h
  · cases h
  · rename_i k hk
    split at h
    · cases h
    split at h
    · cases h
    rename_i h30
    unfold tS at h
    split at h
    · cases h
    · rename_i x hx
      obtain ⟨m1, m2, m3⟩ := tC_ok (A' := x.1) (q := x.2) hW hl hp hk hx
      split at h
      · cases h
        have a1 := k_S_ge l x.2
        have a2 := k_E_ge l x.2
        exact ⟨m1, by omega, k_E_le m3, fun z w => h30 ⟨z, w⟩⟩
      · cases h
theorem k_K0 {l : List Nat} {p : Nat} (hp : p ≤ l.length) (h : k_K l p ≠ 0) : p < l.length := by
  have h1 := k_E_lt h
  have h2 := k_S_ge l p
  have h3 := k_E_le hp
  omega
section RM
variable {scr : Nat × (Nat → Int32)} {t : List mg_S} {G G0 : mg_G} {A : a_A} {l : List Nat} {p : Nat}
/-- the script is read: how many statements, or -1 -/
def rN9 (G0 : mg_G) (l : List Nat) (r : zEr ⊕ (a_A × Nat)) : mg_Q := fun o q G => q = 0 ∧ tF G0 G ∧ match r with
  | .inl e => o = .inl (some (.int (Int32.ofInt (-1)))) ∧ G.2.2.2.2 148 6 = .int e.1 ∧ G.2.2.2.2 148 7 = .int (Int32.ofNat e.2)
  | .inr x => o = .inl (some (.int (Int32.ofNat x.2))) ∧ rI G x.1 ∧ G.2.2.2.2 148 6 = G0.2.2.2.2 148 6 ∧ G.2.2.2.2 148 7 = G0.2.2.2.2 148 7
theorem r252l : ∀ n (A : a_A) many p (G : mg_G), tM G0 G A l p → p ≤ l.length → l.length - p < n → many ≤ 30 → ∀ d, mg_wp (mg_KM scr t) mc_252 (d + 800) 2 [some (.ref 148), some (.int (Int32.ofNat many))] [] G (rN9 G0 l (tL true l n A many p)) := by
  intro n
  induction n with
  | zero => exact fun A many p G hM hp hn hm d => absurd hn (Nat.not_lt_zero _)
  | succ n ih =>
    intro A many p G hM hp hn hm d
    have hk := hM.2.1.2.2
    have hN := hM.2.1.2.1
    have hW := hM.2.1.1.W
    have hl6 := hN.2.1
    have hK4 := k_K4 l p
    by_cases h0 : k_K l p = 0
    · rw [tL_0 h0]
      refine mg_go [2] 60 2 ms_252 ?_
      refine ⟨_, mg_Fe hk.2.1 rfl rfl, fun _ => ?_, fun q => absurd (by rw [h0]; rfl) q⟩
      exact ⟨Or.inl rfl, rfl, hM.1, rfl, hM.2.1.1, hM.2.2.1, hM.2.2.2⟩
    · rw [tL_s h0]
      have kz : ¬ Int32.ofNat (k_K l p) = 0 := fun q => h0 ((mg_eqN (b := 0) (by omega) (by decide)).mp q)
      have ks := r251 (scr := scr) (t := t) d hN hk hp
      rw [k_sm_kd] at ks
      have ern : ∀ {c : Int32}, tO true A l many p = .inl (c, k_S l p) → ∀ G2, G2 = zX G c l p → rN9 G0 l (match tO true A l many p with | .inl e => .inl e | .inr x => tL true l n x.1 (many + 1) x.2) (.inl (some (.int (Int32.ofInt (-1))))) 0 G2 := fun {c} e G2 e2 => by
        rw [e, e2]
        have := hM.x c
        exact ⟨rfl, this.2.1, rfl, this.2.2.2.1, this.2.2.2.2⟩
      cases hkd : k_kd l p with
      | none =>
        rw [hkd, Option.isSome_none] at ks
        have e : tO true A l many p = .inl (1, k_S l p) := by unfold tO; rw [hkd]
        refine mg_go [2] 60 2 ms_252 ?_
        refine ⟨_, mg_Fe hk.2.1 rfl rfl, fun q => absurd q kz, fun _ => ?_⟩
        repeat (first | refine ⟨_, mg_Fs rfl rfl, ?_⟩ | refine ⟨Or.inl rfl, ?_⟩ | refine ⟨Or.inr ⟨_, rfl⟩, ?_⟩ | refine ⟨fun _ => ?_, fun h => absurd h (by decide)⟩ | refine ⟨fun h => absurd h (by decide), fun _ => ?_⟩)
        refine mg_cv (ks) (by omega) ?_
        refine ⟨fun q => absurd rfl q, fun _ => ?_⟩
        repeat (first | refine ⟨_, mg_Fs rfl rfl, ?_⟩ | refine ⟨Or.inl rfl, ?_⟩ | refine ⟨Or.inr ⟨_, rfl⟩, ?_⟩ | refine ⟨fun _ => ?_, fun h => absurd h (by decide)⟩ | refine ⟨fun h => absurd h (by decide), fun _ => ?_⟩)
        refine mg_cv (r212 d hk 1) (by omega) ?_
        exact ⟨Or.inl rfl, ern e _ rfl⟩
      | some k =>
        rw [hkd, Option.isSome_some] at ks
        by_cases h30 : many = 30
        · subst h30
          have e : tO true A l 30 p = .inl (5, k_S l p) := by
            unfold tO
            rw [hkd]
            exact (if_neg (fun z => absurd z.1 (by decide))).trans (if_pos ⟨rfl, rfl⟩)
          refine mg_go [2] 60 2 ms_252 ?_
          refine ⟨_, mg_Fe hk.2.1 rfl rfl, fun q => absurd q kz, fun _ => ?_⟩
          repeat (first | refine ⟨_, mg_Fs rfl rfl, ?_⟩ | refine ⟨Or.inl rfl, ?_⟩ | refine ⟨Or.inr ⟨_, rfl⟩, ?_⟩ | refine ⟨fun _ => ?_, fun h => absurd h (by decide)⟩ | refine ⟨fun h => absurd h (by decide), fun _ => ?_⟩)
          refine mg_cv (ks) (by omega) ?_
          refine ⟨fun _ => ?_, fun q => absurd q (by decide)⟩
          refine ⟨fun q => absurd rfl q, fun _ => ?_⟩
          repeat (first | refine ⟨_, mg_Fs rfl rfl, ?_⟩ | refine ⟨Or.inl rfl, ?_⟩ | refine ⟨Or.inr ⟨_, rfl⟩, ?_⟩ | refine ⟨fun _ => ?_, fun h => absurd h (by decide)⟩ | refine ⟨fun h => absurd h (by decide), fun _ => ?_⟩)
          refine mg_cv (r212 d hk 5) (by omega) ?_
          exact ⟨Or.inl rfl, ern e _ rfl⟩
        · have e : tO true A l many p = tE l (tC A l p k) := by
            unfold tO
            rw [hkd]
            exact (if_neg (fun z => absurd z.1 (by decide))).trans (if_neg (fun z => h30 z.2))
          have ke := r250 (scr := scr) (t := t) d hM.2.1 hp hkd
          have st : ∀ Q : mg_Q, (∀ o q G1, rD G l (tC A l p k) o q G1 → (∃ b : Bool, o = .inl (some (.int (b2 b))) ∧ q = 0 ∧ mg_wp (mg_KM scr t) mc_252 (d + 800) 42 [some (.ref 148), some (.int (Int32.ofNat many))] [.int (b2 b)] G1 Q)) → mg_wp (mg_KM scr t) mc_252 (d + 800) 2 [some (.ref 148), some (.int (Int32.ofNat many))] [] G Q := fun Q g => by
            refine mg_go [42] 60 2 ms_252 ?_
            refine ⟨_, mg_Fe hk.2.1 rfl rfl, fun q => absurd q kz, fun _ => ?_⟩
            repeat (first | refine ⟨_, mg_Fs rfl rfl, ?_⟩ | refine ⟨Or.inl rfl, ?_⟩ | refine ⟨Or.inr ⟨_, rfl⟩, ?_⟩ | refine ⟨fun _ => ?_, fun h => absurd h (by decide)⟩ | refine ⟨fun h => absurd h (by decide), fun _ => ?_⟩)
            refine mg_cv (ks) (by omega) ?_
            refine ⟨fun _ => ?_, fun q => absurd q (by decide)⟩
            refine ⟨fun _ => ?_, fun q => absurd ((mg_eqN (b := 30) (by omega) (by decide)).mp q) h30⟩
            repeat (first | refine ⟨_, mg_Fs rfl rfl, ?_⟩ | refine ⟨Or.inl rfl, ?_⟩ | refine ⟨Or.inr ⟨_, rfl⟩, ?_⟩ | refine ⟨fun _ => ?_, fun h => absurd h (by decide)⟩ | refine ⟨fun h => absurd h (by decide), fun _ => ?_⟩)
            refine mg_m_mono (ke) (by omega) ?_
            rintro o q G1 w
            obtain ⟨b, rfl, rfl, w2⟩ := g o q G1 w
            exact w2
          refine st _ (fun o q G1 w => ?_)
          cases ec : tC A l p k with
          | inl e9 =>
            rw [ec] at w e
            obtain ⟨rfl, a2, rfl, a4, a5⟩ := w
            refine ⟨false, rfl, rfl, ?_⟩
            rw [show tO true A l many p = .inl e9 from e]
            refine mg_go [2] 60 42 ms_252 ?_
            refine ⟨fun _ => ?_, fun q => absurd rfl q⟩
            exact ⟨Or.inl rfl, rfl, hM.1.tr a2, rfl, a4, a5⟩
          | inr x =>
            obtain ⟨A', q9⟩ := x
            rw [ec] at w e
            obtain ⟨rfl, a2, rfl, a4, a5, a6⟩ := w
            refine ⟨true, rfl, rfl, ?_⟩
            have hq9 := (tC_ok hW hl6 hp hkd ec).2
            have hM1 : tM G0 G1 A' l q9 := ⟨hM.1.tr a2, a4, a5.trans hM.2.2.1, a6.trans hM.2.2.2⟩
            cases b : k_is l q9 59 with
            | false =>
              have e : tO true A l many p = .inl (1, k_S l q9) := e.trans (if_neg (by rw [b]; decide))
              rw [e]
              refine mg_go [2] 60 42 ms_252 ?_
              refine ⟨fun q => absurd q (by decide), fun _ => ?_⟩
              repeat (first | refine ⟨_, mg_Fs rfl rfl, ?_⟩ | refine ⟨Or.inl rfl, ?_⟩ | refine ⟨Or.inr ⟨_, rfl⟩, ?_⟩ | refine ⟨fun _ => ?_, fun h => absurd h (by decide)⟩ | refine ⟨fun h => absurd h (by decide), fun _ => ?_⟩)
              refine mg_cv (r215x d hM1.2.1.2.1 hM1.2.1.2.2 hq9.2 (c := 59) (by decide) b) (by omega) ?_
              refine ⟨fun q => absurd rfl q, fun _ => ?_⟩
              have := hM1.x 1
              exact ⟨Or.inl rfl, rfl, this.2.1, rfl, this.2.2.2.1, this.2.2.2.2⟩
            | true =>
              have e : tO true A l many p = .inr (A', k_E l q9) := e.trans (if_pos b)
              rw [e]
              have a7 := k_S_ge l q9
              have a8 := k_E_ge l q9
              refine mg_go [2] 60 42 ms_252 ?_
              refine ⟨fun q => absurd q (by decide), fun _ => ?_⟩
              repeat (first | refine ⟨_, mg_Fs rfl rfl, ?_⟩ | refine ⟨Or.inl rfl, ?_⟩ | refine ⟨Or.inr ⟨_, rfl⟩, ?_⟩ | refine ⟨fun _ => ?_, fun h => absurd h (by decide)⟩ | refine ⟨fun h => absurd h (by decide), fun _ => ?_⟩)
              refine mg_m_mono (r215y d hM1.2.1.2.1 hM1.2.1.2.2 hq9.2 (c := 59) (by decide) b) (by omega) ?_
              rintro o q G2 ⟨rfl, rfl, hk2, hf2⟩
              refine ⟨fun _ => ?_, fun q => absurd q (by decide)⟩
              have g := ih A' (many + 1) (k_E l q9) G2 (hM1.t hk2 hf2) (k_E_le hq9.2) (by omega) (by omega) d
              rw [← mg_inc many] at g
              exact g
theorem r252 (d : Nat) (hM : tM G0 G A l 0) {n : Nat} (hn : l.length < n) : mg_m (mg_KM scr t) (d + 801) 252 [.ref 148] G (rN9 G0 l (tL true l n A 0 0)) := by
  refine mg_me [2] 60 my_252 ms_252 (Nat.le_of_ble_eq_true rfl) ?_
  exact r252l n A 0 0 G hM (Nat.zero_le _) (by omega) (by decide) d
/-- the reading begins -/
theorem r211 (d : Nat) (hN : rIn G l) : mg_m (mg_KM scr t) (d + 3) 211 [.ref 148] G (fun o q G' => o = .inl none ∧ q = 0 ∧ tF G G' ∧ rIn G' l ∧ rk G' l 0 ∧ G'.2.2.2.2 148 6 = .int 0 ∧ G'.2.2.2.2 148 7 = .int (Int32.ofInt (-1)) ∧ G'.1 = G.1 ∧ G'.2.1 = G.2.1) := by
  have f : tF G (mg_sF (mg_sF (mg_sF G 148 6 (.int 0)) 148 7 (.int (Int32.ofInt (-1)))) 148 22 (.int 0)) := ⟨fun _ _ _ => rfl, fun _ _ _ => rfl, fun _ _ => rfl, fun _ _ => rfl, rfl, rfl, fun b k hb => (mg_sF_ne _ _ (by omega)).trans ((mg_sF_ne _ _ (by omega)).trans (mg_sF_ne _ _ (by omega)))⟩
  have hN1 : rIn (mg_sF (mg_sF (mg_sF G 148 6 (.int 0)) 148 7 (.int (Int32.ofInt (-1)))) 148 22 (.int 0)) l := ⟨(f.2.2.2.2.2.2 148 5 (by decide)).trans hN.1, hN.2.1, hN.2.2⟩
  refine mg_me [] 60 my_211 ms_211 (Nat.le_of_ble_eq_true rfl) ?_
  refine ⟨rfl, _, rfl, rfl, rfl, _, rfl, rfl, rfl, _, rfl, rfl, ?_⟩
  repeat (first | refine ⟨_, mg_Fs rfl rfl, ?_⟩ | refine ⟨Or.inl rfl, ?_⟩ | refine ⟨Or.inr ⟨_, rfl⟩, ?_⟩ | refine ⟨fun _ => ?_, fun h => absurd h (by decide)⟩ | refine ⟨fun h => absurd h (by decide), fun _ => ?_⟩)
  refine mg_m_mono (r210 (p := 0) d hN1 (Nat.zero_le _) (mg_sF_at _ _ _ _)) (by omega) ?_
  rintro o q G1 ⟨rfl, rfl, hk, hf⟩
  refine ⟨rfl, rfl, f.tr hf.o.R.t, hf.n hN1, hk, (hf.2.2.2.2 148 6 (by decide)).trans ((mg_sF_ne _ _ (by decide)).trans ((mg_sF_ne _ _ (by decide)).trans (mg_sF_at _ _ _ _))), (hf.2.2.2.2 148 7 (by decide)).trans ((mg_sF_ne _ _ (by decide)).trans (mg_sF_at _ _ _ _)), hf.1, hf.2.1⟩
end RM
