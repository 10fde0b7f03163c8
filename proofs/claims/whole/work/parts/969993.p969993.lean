/-! REFERENCE: simple formulas, and the induction -/
section RM
variable {scr : Nat × (Nat → Int32)} {t : List mg_S} {A : a_A} {l : List Nat} {n o p : Nat} {ts : List a_T} {r : zEr ⊕ (a_T × Nat)} {G G0 : mg_G}
theorem zFs (hW : aW A) (ih : zIH scr t A l n) (ho : o ≤ 20) (hp : p ≤ l.length) (hlen : ts.length ≤ 7 * o + 5) (hZ : zI G A l p o ts) (h : zP A l (n + 1) 5 none o p = some r) (d : Nat) : mg_m (mg_KM scr t) (d + 8 * (20 - o) + (6 - 5) + (l.length - p) + 10) 241 [.ref 148] G (zQ G l o ts r) := by
  have hE := k_E_le hp
  have hS := k_S_ge l p
  have hSE := k_E_ge l p
  have hK4 := k_K4 l p
  obtain ⟨hI, hN, hk, hK, h26⟩ := id hZ
  have h : (if k_is l p 33 = true then zB (zP A l n 5 none o (k_E l p)) (fun T q => some (.inr (a_not T, q)))
      else if (k_wd l p w_all || k_wd l p w_some) = true then (if k_nm l (k_E l p) = true then (match k_v A l (k_E l p) with
          | none => zErr 3 l (k_E l p)
          | some v => zB (zP A l n 5 none o (k_E l (k_E l p))) (fun T q => some (.inr (a_qu (k_wd l p w_all) v T, q))))
        else zErr 1 l (k_E l p))
      else if k_wd l p w_if = true then (if k_is l (k_E l p) 40 = true then (if o = 20 then zErr 5 l (k_E l p) else
          zB (zP A l n 0 none (o + 1) (k_E l (k_E l p))) (fun c q => if k_is l q 44 = true then zB (zP A l n 0 none (o + 1) (k_E l q)) (fun x q => if k_is l q 44 = true then zB (zP A l n 0 none (o + 1) (k_E l q)) (fun y q => if k_is l q 41 = true then some (.inr (a_sel c x y, k_E l q)) else zErr 1 l q) else zErr 1 l q) else zErr 1 l q))
        else zErr 1 l (k_E l p))
      else if k_is l p 40 = true then (if o = 20 then zErr 5 l p else zB (zP A l n 0 none (o + 1) (k_E l p)) (fun T q => if k_is l q 41 = true then some (.inr (T, k_E l q)) else zErr 1 l q))
      else if k_K l p = 1 then (match k_v A l p with
        | some v => some (.inr (a_var v, k_E l p))
        | none => match k_f A l p with
          | some f => some (.inr (aT A f, k_E l p))
          | none => zErr 3 l p)
      else if k_bit l p = true then some (.inr (z_cst (decide (k_N l p = 1)), k_E l p))
      else zErr 1 l p) = some r := h
  have s33 := r214 (scr := scr) (t := t) d hN hk hp (c := 33) (by decide)
  have s40 := r214 (scr := scr) (t := t) d hN hk hp (c := 40) (by decide)
  have w1 := r213 (scr := scr) (t := t) d hN hk hp (a := 39) (by unfold k_ok; omega) (by decide)
  have w2 := r213 (scr := scr) (t := t) d hN hk hp (a := 40) (by unfold k_ok; omega) (by decide)
  have w3 := r213 (scr := scr) (t := t) d hN hk hp (a := 41) (by unfold k_ok; omega) (by decide)
  rw [show k_str 39 = w_all from by decide] at w1
  rw [show k_str 40 = w_some from by decide] at w2
  rw [show k_str 41 = w_if from by decide] at w3
  cases b1 : k_is l p 33 with
  | true =>
    rw [if_pos b1] at h
    rw [b1] at s33
    have hlt := k_is_E b1
    have k1 : ∀ (G1 : mg_G) r', zS G G1 l (k_E l p) o ts → zP A l n 5 none o (k_E l p) = some r' → mg_m (mg_KM scr t) (d + 8 * (20 - o) + (6 - 5) + (l.length - k_E l p) + 10) 241 [.ref 148] G1 (zQ G1 l o ts r') := fun G1 r' hS1 g => ih.1 5 o (k_E l p) ts r' G1 (by decide) ho hE hlen (hS1.I hI hN) g d
    rcases zB_s h with ⟨e, g1, rfl⟩ | ⟨T, q, g1, g2⟩
    · refine mg_me [] 60 my_241 ms_241 (Nat.le_of_ble_eq_true rfl) ?_
      repeat (first | refine ⟨_, mg_Fs rfl rfl, ?_⟩ | refine ⟨Or.inl rfl, ?_⟩ | refine ⟨Or.inr ⟨_, rfl⟩, ?_⟩ | refine ⟨fun _ => ?_, fun h => absurd h (by decide)⟩ | refine ⟨fun h => absurd h (by decide), fun _ => ?_⟩)
      refine mg_cv (s33) (by omega) ?_
      refine ⟨fun q => absurd q (by decide), fun _ => ?_⟩
      repeat (first | refine ⟨_, mg_Fs rfl rfl, ?_⟩ | refine ⟨Or.inl rfl, ?_⟩ | refine ⟨Or.inr ⟨_, rfl⟩, ?_⟩ | refine ⟨fun _ => ?_, fun h => absurd h (by decide)⟩ | refine ⟨fun h => absurd h (by decide), fun _ => ?_⟩)
      refine mg_m_mono (r210 d hN hE hk.1) (by omega) ?_
      rintro ou q G1 ⟨rfl, rfl, hk1, hf1⟩
      have hS1 := hZ.S.f hk1 hf1
      repeat (first | refine ⟨_, mg_Fs rfl rfl, ?_⟩ | refine ⟨Or.inl rfl, ?_⟩ | refine ⟨Or.inr ⟨_, rfl⟩, ?_⟩ | refine ⟨fun _ => ?_, fun h => absurd h (by decide)⟩ | refine ⟨fun h => absurd h (by decide), fun _ => ?_⟩)
      refine mg_m_mono (k1 G1 _ hS1 g1) (by omega) ?_
      rintro ou q G2 w
      obtain ⟨rfl, rfl, w2⟩ := zQ_e (o' := o) (ts' := ts) hS1.1 w
      exact ⟨fun q => absurd rfl q, fun _ => ⟨Or.inr rfl, w2⟩⟩
    · cases g2
      refine mg_me [] 60 my_241 ms_241 (Nat.le_of_ble_eq_true rfl) ?_
      repeat (first | refine ⟨_, mg_Fs rfl rfl, ?_⟩ | refine ⟨Or.inl rfl, ?_⟩ | refine ⟨Or.inr ⟨_, rfl⟩, ?_⟩ | refine ⟨fun _ => ?_, fun h => absurd h (by decide)⟩ | refine ⟨fun h => absurd h (by decide), fun _ => ?_⟩)
      refine mg_cv (s33) (by omega) ?_
      refine ⟨fun q => absurd q (by decide), fun _ => ?_⟩
      repeat (first | refine ⟨_, mg_Fs rfl rfl, ?_⟩ | refine ⟨Or.inl rfl, ?_⟩ | refine ⟨Or.inr ⟨_, rfl⟩, ?_⟩ | refine ⟨fun _ => ?_, fun h => absurd h (by decide)⟩ | refine ⟨fun h => absurd h (by decide), fun _ => ?_⟩)
      refine mg_m_mono (r210 d hN hE hk.1) (by omega) ?_
      rintro ou q' G1 ⟨rfl, rfl, hk1, hf1⟩
      have hS1 := hZ.S.f hk1 hf1
      repeat (first | refine ⟨_, mg_Fs rfl rfl, ?_⟩ | refine ⟨Or.inl rfl, ?_⟩ | refine ⟨Or.inr ⟨_, rfl⟩, ?_⟩ | refine ⟨fun _ => ?_, fun h => absurd h (by decide)⟩ | refine ⟨fun h => absurd h (by decide), fun _ => ?_⟩)
      refine mg_m_mono (k1 G1 _ hS1 g1) (by omega) ?_
      rintro ou q' G2 w
      obtain ⟨rfl, rfl, hS2⟩ := hS1.q w
      refine ⟨fun _ => ?_, fun q => absurd q (by decide)⟩
      repeat (first | refine ⟨_, mg_Fs rfl rfl, ?_⟩ | refine ⟨Or.inl rfl, ?_⟩ | refine ⟨Or.inr ⟨_, rfl⟩, ?_⟩ | refine ⟨fun _ => ?_, fun h => absurd h (by decide)⟩ | refine ⟨fun h => absurd h (by decide), fun _ => ?_⟩)
      refine mg_m_mono (r229 d hS2.2.2.1 (by omega)) (by omega) ?_
      rintro ou q' G3 ⟨rfl, rfl, hX, hK3⟩
      exact ⟨Or.inr rfl, (hS2.X hX hK3).Q⟩
  | false =>
  rw [if_neg (by rw [b1]; decide)] at h
  rw [b1] at s33
  cases b2 : k_wd l p w_all with
  | true =>
    rw [if_pos (by rw [b2, Bool.true_or])] at h
    rw [b2] at w1
    refine mg_me [] 60 my_241 ms_241 (Nat.le_of_ble_eq_true rfl) ?_
    repeat (first | refine ⟨_, mg_Fs rfl rfl, ?_⟩ | refine ⟨Or.inl rfl, ?_⟩ | refine ⟨Or.inr ⟨_, rfl⟩, ?_⟩ | refine ⟨fun _ => ?_, fun h => absurd h (by decide)⟩ | refine ⟨fun h => absurd h (by decide), fun _ => ?_⟩)
    refine mg_cv (s33) (by omega) ?_
    refine ⟨fun _ => ?_, fun q => absurd rfl q⟩
    repeat (first | refine ⟨_, mg_Fs rfl rfl, ?_⟩ | refine ⟨Or.inl rfl, ?_⟩ | refine ⟨Or.inr ⟨_, rfl⟩, ?_⟩ | refine ⟨fun _ => ?_, fun h => absurd h (by decide)⟩ | refine ⟨fun h => absurd h (by decide), fun _ => ?_⟩)
    refine mg_cv (w1) (by omega) ?_
    refine ⟨fun _ => ?_, fun q => absurd q (by decide)⟩
    repeat (first | refine ⟨_, mg_Fs rfl rfl, ?_⟩ | refine ⟨Or.inl rfl, ?_⟩ | refine ⟨Or.inr ⟨_, rfl⟩, ?_⟩ | refine ⟨fun _ => ?_, fun h => absurd h (by decide)⟩ | refine ⟨fun h => absurd h (by decide), fun _ => ?_⟩)
    refine mg_m_mono (r238 hW ih ho hp hlen hZ (k_wd_E b2) h d) (by omega) ?_
    rintro ou q G1 w
    obtain ⟨rfl, b, rfl, w2⟩ := zQ_v w
    exact ⟨Or.inr (by cases b <;> rfl), w2⟩
  | false =>
  rw [b2] at w1
  cases b3 : k_wd l p w_some with
  | true =>
    rw [if_pos (by rw [b3, Bool.or_true])] at h
    rw [b3] at w2
    refine mg_me [] 60 my_241 ms_241 (Nat.le_of_ble_eq_true rfl) ?_
    repeat (first | refine ⟨_, mg_Fs rfl rfl, ?_⟩ | refine ⟨Or.inl rfl, ?_⟩ | refine ⟨Or.inr ⟨_, rfl⟩, ?_⟩ | refine ⟨fun _ => ?_, fun h => absurd h (by decide)⟩ | refine ⟨fun h => absurd h (by decide), fun _ => ?_⟩)
    refine mg_cv (s33) (by omega) ?_
    refine ⟨fun _ => ?_, fun q => absurd rfl q⟩
    repeat (first | refine ⟨_, mg_Fs rfl rfl, ?_⟩ | refine ⟨Or.inl rfl, ?_⟩ | refine ⟨Or.inr ⟨_, rfl⟩, ?_⟩ | refine ⟨fun _ => ?_, fun h => absurd h (by decide)⟩ | refine ⟨fun h => absurd h (by decide), fun _ => ?_⟩)
    refine mg_cv (w1) (by omega) ?_
    refine ⟨fun q => absurd rfl q, fun _ => ?_⟩
    repeat (first | refine ⟨_, mg_Fs rfl rfl, ?_⟩ | refine ⟨Or.inl rfl, ?_⟩ | refine ⟨Or.inr ⟨_, rfl⟩, ?_⟩ | refine ⟨fun _ => ?_, fun h => absurd h (by decide)⟩ | refine ⟨fun h => absurd h (by decide), fun _ => ?_⟩)
    refine mg_cv (w2) (by omega) ?_
    refine ⟨fun q => absurd q (by decide), fun _ => ?_⟩
    repeat (first | refine ⟨_, mg_Fs rfl rfl, ?_⟩ | refine ⟨Or.inl rfl, ?_⟩ | refine ⟨Or.inr ⟨_, rfl⟩, ?_⟩ | refine ⟨fun _ => ?_, fun h => absurd h (by decide)⟩ | refine ⟨fun h => absurd h (by decide), fun _ => ?_⟩)
    refine mg_m_mono (r238 hW ih ho hp hlen hZ (k_wd_E b3) h d) (by omega) ?_
    rintro ou q G1 w
    obtain ⟨rfl, b, rfl, w2⟩ := zQ_v w
    exact ⟨Or.inr (by cases b <;> rfl), w2⟩
  | false =>
  rw [if_neg (by rw [b2, b3]; decide)] at h
  rw [b3] at w2
  cases b4 : k_wd l p w_if with
  | true =>
    rw [if_pos b4] at h
    rw [b4] at w3
    refine mg_me [] 60 my_241 ms_241 (Nat.le_of_ble_eq_true rfl) ?_
    repeat (first | refine ⟨_, mg_Fs rfl rfl, ?_⟩ | refine ⟨Or.inl rfl, ?_⟩ | refine ⟨Or.inr ⟨_, rfl⟩, ?_⟩ | refine ⟨fun _ => ?_, fun h => absurd h (by decide)⟩ | refine ⟨fun h => absurd h (by decide), fun _ => ?_⟩)
    refine mg_cv (s33) (by omega) ?_
    refine ⟨fun _ => ?_, fun q => absurd rfl q⟩
    repeat (first | refine ⟨_, mg_Fs rfl rfl, ?_⟩ | refine ⟨Or.inl rfl, ?_⟩ | refine ⟨Or.inr ⟨_, rfl⟩, ?_⟩ | refine ⟨fun _ => ?_, fun h => absurd h (by decide)⟩ | refine ⟨fun h => absurd h (by decide), fun _ => ?_⟩)
    refine mg_cv (w1) (by omega) ?_
    refine ⟨fun q => absurd rfl q, fun _ => ?_⟩
    repeat (first | refine ⟨_, mg_Fs rfl rfl, ?_⟩ | refine ⟨Or.inl rfl, ?_⟩ | refine ⟨Or.inr ⟨_, rfl⟩, ?_⟩ | refine ⟨fun _ => ?_, fun h => absurd h (by decide)⟩ | refine ⟨fun h => absurd h (by decide), fun _ => ?_⟩)
    refine mg_cv (w2) (by omega) ?_
    refine ⟨fun _ => ?_, fun q => absurd rfl q⟩
    repeat (first | refine ⟨_, mg_Fs rfl rfl, ?_⟩ | refine ⟨Or.inl rfl, ?_⟩ | refine ⟨Or.inr ⟨_, rfl⟩, ?_⟩ | refine ⟨fun _ => ?_, fun h => absurd h (by decide)⟩ | refine ⟨fun h => absurd h (by decide), fun _ => ?_⟩)
    refine mg_cv (w3) (by omega) ?_
    refine ⟨fun q => absurd q (by decide), fun _ => ?_⟩
    repeat (first | refine ⟨_, mg_Fs rfl rfl, ?_⟩ | refine ⟨Or.inl rfl, ?_⟩ | refine ⟨Or.inr ⟨_, rfl⟩, ?_⟩ | refine ⟨fun _ => ?_, fun h => absurd h (by decide)⟩ | refine ⟨fun h => absurd h (by decide), fun _ => ?_⟩)
    refine mg_m_mono (r239 hW ih ho hp hlen hZ (k_wd_E b4) h d) (by omega) ?_
    rintro ou q G1 w
    obtain ⟨rfl, b, rfl, w2⟩ := zQ_v w
    exact ⟨Or.inr (by cases b <;> rfl), w2⟩
  | false =>
  rw [if_neg (by rw [b4]; decide)] at h
  rw [b4] at w3
  have st : ∀ Q : mg_Q, mg_wp (mg_KM scr t) mc_241 (d + 8 * (20 - o) + (6 - 5) + (l.length - p) + 9) 65 [some (.ref 148)] [] G Q → mg_m (mg_KM scr t) (d + 8 * (20 - o) + (6 - 5) + (l.length - p) + 10) 241 [.ref 148] G Q := fun Q g => by
    refine mg_me [65] 60 my_241 ms_241 (Nat.le_of_ble_eq_true rfl) ?_
    repeat (first | refine ⟨_, mg_Fs rfl rfl, ?_⟩ | refine ⟨Or.inl rfl, ?_⟩ | refine ⟨Or.inr ⟨_, rfl⟩, ?_⟩ | refine ⟨fun _ => ?_, fun h => absurd h (by decide)⟩ | refine ⟨fun h => absurd h (by decide), fun _ => ?_⟩)
    refine mg_cv (s33) (by omega) ?_
    refine ⟨fun _ => ?_, fun q => absurd rfl q⟩
    repeat (first | refine ⟨_, mg_Fs rfl rfl, ?_⟩ | refine ⟨Or.inl rfl, ?_⟩ | refine ⟨Or.inr ⟨_, rfl⟩, ?_⟩ | refine ⟨fun _ => ?_, fun h => absurd h (by decide)⟩ | refine ⟨fun h => absurd h (by decide), fun _ => ?_⟩)
    refine mg_cv (w1) (by omega) ?_
    refine ⟨fun q => absurd rfl q, fun _ => ?_⟩
    repeat (first | refine ⟨_, mg_Fs rfl rfl, ?_⟩ | refine ⟨Or.inl rfl, ?_⟩ | refine ⟨Or.inr ⟨_, rfl⟩, ?_⟩ | refine ⟨fun _ => ?_, fun h => absurd h (by decide)⟩ | refine ⟨fun h => absurd h (by decide), fun _ => ?_⟩)
    refine mg_cv (w2) (by omega) ?_
    refine ⟨fun _ => ?_, fun q => absurd rfl q⟩
    repeat (first | refine ⟨_, mg_Fs rfl rfl, ?_⟩ | refine ⟨Or.inl rfl, ?_⟩ | refine ⟨Or.inr ⟨_, rfl⟩, ?_⟩ | refine ⟨fun _ => ?_, fun h => absurd h (by decide)⟩ | refine ⟨fun h => absurd h (by decide), fun _ => ?_⟩)
    refine mg_cv (w3) (by omega) ?_
    exact ⟨fun _ => g, fun q => absurd rfl q⟩
  refine st _ ?_
  cases b5 : k_is l p 40 with
  | true =>
    rw [if_pos b5] at h
    rw [b5] at s40
    have hlt := k_is_E b5
    by_cases h20 : o = 20
    · rw [if_pos h20] at h
      cases h
      refine mg_go [] 60 65 ms_241 ?_
      repeat (first | refine ⟨_, mg_Fs rfl rfl, ?_⟩ | refine ⟨Or.inl rfl, ?_⟩ | refine ⟨Or.inr ⟨_, rfl⟩, ?_⟩ | refine ⟨fun _ => ?_, fun h => absurd h (by decide)⟩ | refine ⟨fun h => absurd h (by decide), fun _ => ?_⟩)
      refine mg_cv (s40) (by omega) ?_
      refine ⟨fun q => absurd q (by decide), fun _ => ?_⟩
      repeat (first | refine ⟨_, mg_Fs rfl rfl, ?_⟩ | refine ⟨Or.inl rfl, ?_⟩ | refine ⟨Or.inr ⟨_, rfl⟩, ?_⟩ | refine ⟨fun _ => ?_, fun h => absurd h (by decide)⟩ | refine ⟨fun h => absurd h (by decide), fun _ => ?_⟩)
      refine mg_cv (r236b d hN hk hp b5 (by rw [← h20]; exact h26)) (by omega) ?_
      exact ⟨fun _ => ⟨Or.inr rfl, zQ_x (rRf.rf G)⟩, fun q => absurd rfl q⟩
    · rw [if_neg h20] at h
      refine mg_go [] 60 65 ms_241 ?_
      repeat (first | refine ⟨_, mg_Fs rfl rfl, ?_⟩ | refine ⟨Or.inl rfl, ?_⟩ | refine ⟨Or.inr ⟨_, rfl⟩, ?_⟩ | refine ⟨fun _ => ?_, fun h => absurd h (by decide)⟩ | refine ⟨fun h => absurd h (by decide), fun _ => ?_⟩)
      refine mg_cv (s40) (by omega) ?_
      refine ⟨fun q => absurd q (by decide), fun _ => ?_⟩
      repeat (first | refine ⟨_, mg_Fs rfl rfl, ?_⟩ | refine ⟨Or.inl rfl, ?_⟩ | refine ⟨Or.inr ⟨_, rfl⟩, ?_⟩ | refine ⟨fun _ => ?_, fun h => absurd h (by decide)⟩ | refine ⟨fun h => absurd h (by decide), fun _ => ?_⟩)
      refine mg_m_mono (r236c d hN hk hp b5 (by omega) h26) (by omega) ?_
      rintro ou q' G1 ⟨rfl, rfl, hk1, h261, hf1⟩
      have hS1 := hZ.S.o hk1 h261 hf1
      have k1 : ∀ r', zP A l n 0 none (o + 1) (k_E l p) = some r' → mg_m (mg_KM scr t) (d + 8 * (20 - (o + 1)) + (6 - 0) + (l.length - k_E l p) + 10) 231 [.ref 148] G1 (zQ G1 l (o + 1) ts r') := fun r' g => ih.1 0 (o + 1) (k_E l p) ts r' G1 (by decide) (by omega) hE (by omega) (hS1.I hI hN) g d
      refine ⟨fun q => absurd q (by decide), fun _ => ?_⟩
      rcases zB_s h with ⟨e, g1, rfl⟩ | ⟨T, q, g1, g2⟩
      · repeat (first | refine ⟨_, mg_Fs rfl rfl, ?_⟩ | refine ⟨Or.inl rfl, ?_⟩ | refine ⟨Or.inr ⟨_, rfl⟩, ?_⟩ | refine ⟨fun _ => ?_, fun h => absurd h (by decide)⟩ | refine ⟨fun h => absurd h (by decide), fun _ => ?_⟩)
        refine mg_m_mono (k1 _ g1) (by omega) ?_
        rintro ou q' G2 w
        obtain ⟨rfl, rfl, w2⟩ := zQ_e (o' := o) (ts' := ts) hS1.1 w
        exact ⟨fun _ => ⟨Or.inr rfl, w2⟩, fun q => absurd rfl q⟩
      · obtain ⟨m1, m2, -⟩ := zP_okn hW hE g1
        repeat (first | refine ⟨_, mg_Fs rfl rfl, ?_⟩ | refine ⟨Or.inl rfl, ?_⟩ | refine ⟨Or.inr ⟨_, rfl⟩, ?_⟩ | refine ⟨fun _ => ?_, fun h => absurd h (by decide)⟩ | refine ⟨fun h => absurd h (by decide), fun _ => ?_⟩)
        refine mg_m_mono (k1 _ g1) (by omega) ?_
        rintro ou q' G2 w
        obtain ⟨rfl, rfl, hS2⟩ := hS1.q w
        have hN2 := hS2.1.n hN
        refine ⟨fun q => absurd q (by decide), fun _ => ?_⟩
        cases hs : k_is l q 41 with
        | false =>
          rw [hs, if_neg (by decide)] at g2
          cases g2
          repeat (first | refine ⟨_, mg_Fs rfl rfl, ?_⟩ | refine ⟨Or.inl rfl, ?_⟩ | refine ⟨Or.inr ⟨_, rfl⟩, ?_⟩ | refine ⟨fun _ => ?_, fun h => absurd h (by decide)⟩ | refine ⟨fun h => absurd h (by decide), fun _ => ?_⟩)
          refine mg_cv (r237x d hN2 hS2.2.1 m2 hs) (by omega) ?_
          exact ⟨fun _ => ⟨Or.inr rfl, zQ_x hS2.1⟩, fun q => absurd rfl q⟩
        | true =>
          rw [hs, if_pos rfl] at g2
          cases g2
          repeat (first | refine ⟨_, mg_Fs rfl rfl, ?_⟩ | refine ⟨Or.inl rfl, ?_⟩ | refine ⟨Or.inr ⟨_, rfl⟩, ?_⟩ | refine ⟨fun _ => ?_, fun h => absurd h (by decide)⟩ | refine ⟨fun h => absurd h (by decide), fun _ => ?_⟩)
          refine mg_m_mono (r237y d hN2 hS2.2.1 m2 hs hS2.2.2.2.1) (by omega) ?_
          rintro ou q' G3 ⟨rfl, rfl, hk3, h263, hf3⟩
          exact ⟨fun q => absurd q (by decide), fun _ => ⟨Or.inr rfl, (hS2.o hk3 h263 hf3).Q⟩⟩
  | false =>
  rw [if_neg (by rw [b5]; decide)] at h
  rw [b5] at s40
  by_cases h1 : k_K l p = 1
  · rw [if_pos h1] at h
    refine mg_go [] 60 65 ms_241 ?_
    repeat (first | refine ⟨_, mg_Fs rfl rfl, ?_⟩ | refine ⟨Or.inl rfl, ?_⟩ | refine ⟨Or.inr ⟨_, rfl⟩, ?_⟩ | refine ⟨fun _ => ?_, fun h => absurd h (by decide)⟩ | refine ⟨fun h => absurd h (by decide), fun _ => ?_⟩)
    refine mg_cv (s40) (by omega) ?_
    refine ⟨fun _ => ?_, fun q => absurd rfl q⟩
    refine ⟨_, mg_Fe hk.2.1 rfl rfl, fun q => absurd (by rw [h1]; rfl) q, fun _ => ?_⟩
    repeat (first | refine ⟨_, mg_Fs rfl rfl, ?_⟩ | refine ⟨Or.inl rfl, ?_⟩ | refine ⟨Or.inr ⟨_, rfl⟩, ?_⟩ | refine ⟨fun _ => ?_, fun h => absurd h (by decide)⟩ | refine ⟨fun h => absurd h (by decide), fun _ => ?_⟩)
    refine mg_m_mono (r240 d hZ hp h1 (by omega) h) (by omega) ?_
    rintro ou q G1 w
    obtain ⟨rfl, b, rfl, w2⟩ := zQ_v w
    exact ⟨Or.inr (by cases b <;> rfl), w2⟩
  rw [if_neg h1] at h
  have st2 : ∀ Q : mg_Q, mg_wp (mg_KM scr t) mc_241 (d + 8 * (20 - o) + (6 - 5) + (l.length - p) + 9) 114 [some (.ref 148)] [] G Q → mg_wp (mg_KM scr t) mc_241 (d + 8 * (20 - o) + (6 - 5) + (l.length - p) + 9) 65 [some (.ref 148)] [] G Q := fun Q g => by
    refine mg_go [114] 60 65 ms_241 ?_
    repeat (first | refine ⟨_, mg_Fs rfl rfl, ?_⟩ | refine ⟨Or.inl rfl, ?_⟩ | refine ⟨Or.inr ⟨_, rfl⟩, ?_⟩ | refine ⟨fun _ => ?_, fun h => absurd h (by decide)⟩ | refine ⟨fun h => absurd h (by decide), fun _ => ?_⟩)
    refine mg_cv (s40) (by omega) ?_
    refine ⟨fun _ => ?_, fun q => absurd rfl q⟩
    exact ⟨_, mg_Fe hk.2.1 rfl rfl, fun _ => g, fun q => absurd ((mg_eqN (b := 1) (by omega) (by decide)).mp q) h1⟩
  refine st2 _ ?_
  have er : k_bit l p = false → mg_wp (mg_KM scr t) mc_241 (d + 8 * (20 - o) + (6 - 5) + (l.length - p) + 9) 143 [some (.ref 148)] [] G (zQ G l o ts r) := fun q => by
    rw [if_neg (by rw [q]; decide)] at h
    cases h
    refine mg_go [] 60 143 ms_241 ?_
    repeat (first | refine ⟨_, mg_Fs rfl rfl, ?_⟩ | refine ⟨Or.inl rfl, ?_⟩ | refine ⟨Or.inr ⟨_, rfl⟩, ?_⟩ | refine ⟨fun _ => ?_, fun h => absurd h (by decide)⟩ | refine ⟨fun h => absurd h (by decide), fun _ => ?_⟩)
    refine mg_cv (r212 d hk 1) (by omega) ?_
    exact ⟨Or.inr rfl, zQ_x (rRf.rf G)⟩
  have no : ¬ (k_K l p = 2 ∧ k_E l p = k_S l p + 1 ∧ k_N l p ≤ 1) → k_bit l p = false := fun h => decide_eq_false h
  have hl600 := hN.2.1
  by_cases h2 : k_K l p = 2
  · have h25 := hk.2.2.2 h2
    refine mg_go [143] 60 114 ms_241 ?_
    refine ⟨_, mg_Fe hk.2.1 rfl rfl, fun q => absurd (by rw [h2]; rfl) q, fun _ => ?_⟩
    refine ⟨_, mg_Fe hk.1 rfl rfl, _, mg_Fe hk.2.2.1 rfl rfl, fun q => ?_, fun q => ?_⟩
    · have q : ¬ Int32.ofNat (k_E l p) - Int32.ofNat (k_S l p) = Int32.ofInt 1 := q
      rw [sub_ofN hSE] at q
      exact er (no (fun z => q (by rw [z.2.1, Nat.add_sub_cancel_left]; rfl)))
    · have q : Int32.ofNat (k_E l p) - Int32.ofNat (k_S l p) = Int32.ofInt 1 := q
      rw [sub_ofN hSE] at q
      have q := (mg_eqN (b := 1) (by omega) (by decide)).mp q
      have hN9 : k_N l p < 1000 := k_N_lt hp h2
      refine ⟨_, mg_Fe h25 rfl rfl, fun g => ?_, fun g => ?_⟩
      · have g := (mg_leN (b := 1) (by omega) (by decide)).mp g
        have hb : k_bit l p = true := decide_eq_true ⟨h2, by omega, g⟩
        rw [if_pos hb] at h
        cases h
        have fin : ∀ x : Int64, ((x, x, x, x) : a_T) = z_cst (decide (k_N l p = 1)) → ∀ ou q G1, rP G (ts ++ [(x, x, x, x)]) ou q G1 → ou = .inl none ∧ q = 0 ∧ zS G G1 l p o (ts ++ [z_cst (decide (k_N l p = 1))]) := fun x hx ou q G1 ⟨a1, a2, a3, a4⟩ => ⟨a1, a2, hZ.S.X a3 (by rw [← hx]; exact a4)⟩
        refine ⟨_, mg_Fe h25 rfl rfl, fun g2 => ?_, fun g2 => ?_⟩
        · have g2 : ¬ k_N l p = 1 := fun z => g2 (by rw [z]; rfl)
          repeat (first | refine ⟨_, mg_Fs rfl rfl, ?_⟩ | refine ⟨Or.inl rfl, ?_⟩ | refine ⟨Or.inr ⟨_, rfl⟩, ?_⟩ | refine ⟨fun _ => ?_, fun h => absurd h (by decide)⟩ | refine ⟨fun h => absurd h (by decide), fun _ => ?_⟩)
          refine mg_m_mono (r225 d 0 hK (by omega)) (by omega) ?_
          rintro ou q G1 w
          obtain ⟨rfl, rfl, hS1⟩ := fin 0 (by rw [decide_eq_false g2]; rfl) _ _ _ w
          repeat (first | refine ⟨_, mg_Fs rfl rfl, ?_⟩ | refine ⟨Or.inl rfl, ?_⟩ | refine ⟨Or.inr ⟨_, rfl⟩, ?_⟩ | refine ⟨fun _ => ?_, fun h => absurd h (by decide)⟩ | refine ⟨fun h => absurd h (by decide), fun _ => ?_⟩)
          refine mg_m_mono (r210 d (hS1.1.n hN) hE hS1.2.1.1) (by omega) ?_
          rintro ou q G2 ⟨rfl, rfl, hk2, hf2⟩
          exact ⟨Or.inr rfl, (hS1.f hk2 hf2).Q⟩
        · have g2 := (mg_eqN (b := 1) (by omega) (by decide)).mp g2
          repeat (first | refine ⟨_, mg_Fs rfl rfl, ?_⟩ | refine ⟨Or.inl rfl, ?_⟩ | refine ⟨Or.inr ⟨_, rfl⟩, ?_⟩ | refine ⟨fun _ => ?_, fun h => absurd h (by decide)⟩ | refine ⟨fun h => absurd h (by decide), fun _ => ?_⟩)
          refine mg_m_mono (r225 d (-1) hK (by omega)) (by omega) ?_
          rintro ou q G1 w
          obtain ⟨rfl, rfl, hS1⟩ := fin (-1) (by rw [decide_eq_true g2]; rfl) _ _ _ w
          repeat (first | refine ⟨_, mg_Fs rfl rfl, ?_⟩ | refine ⟨Or.inl rfl, ?_⟩ | refine ⟨Or.inr ⟨_, rfl⟩, ?_⟩ | refine ⟨fun _ => ?_, fun h => absurd h (by decide)⟩ | refine ⟨fun h => absurd h (by decide), fun _ => ?_⟩)
          refine mg_m_mono (r210 d (hS1.1.n hN) hE hS1.2.1.1) (by omega) ?_
          rintro ou q G2 ⟨rfl, rfl, hk2, hf2⟩
          exact ⟨Or.inr rfl, (hS1.f hk2 hf2).Q⟩
      · have g := (mg_ltN (a := 1) (by decide) (by omega)).mp g
        exact er (no (fun z => absurd z.2.2 (by omega)))
  · refine mg_go [143] 60 114 ms_241 ?_
    exact ⟨_, mg_Fe hk.2.1 rfl rfl, fun _ => er (no (fun z => h2 z.1)), fun q => absurd ((mg_eqN (b := 2) (by omega) (by decide)).mp q) h2⟩
end RM
section RM
variable {scr : Nat × (Nat → Int32)} {t : List mg_S} {A : a_A} {l : List Nat}
/-- the reference reads formulas as zP does -/
theorem zF_all (hW : aW A) : ∀ n, zIH scr t A l n := by
  intro n
  induction n with
  | zero => exact ⟨fun _ _ _ _ _ _ _ _ _ _ _ h => (nomatch h), fun _ _ _ _ _ _ _ _ _ _ _ _ _ h => (nomatch h)⟩
  | succ n ih =>
    refine ⟨fun lvl o p ts r G hl ho hp hlen hZ h d => ?_, fun lvl o p ts T r G hl ho hp hlen hZ hT h d => ?_⟩
    · rcases (show lvl = 0 ∨ lvl = 1 ∨ lvl = 2 ∨ lvl = 3 ∨ lvl = 4 ∨ lvl = 5 by omega) with rfl | rfl | rfl | rfl | rfl | rfl
      · exact zFa0 hW ih ho hp hlen hZ h d
      · exact zFa1 hW ih ho hp hlen hZ h d
      · exact zFa2 hW ih ho hp hlen hZ h d
      · exact zFa3 hW ih ho hp hlen hZ h d
      · exact zFa4 hW ih ho hp hlen hZ h d
      · exact zFs hW ih ho hp hlen hZ h d
    · rcases (show lvl = 0 ∨ lvl = 1 ∨ lvl = 2 ∨ lvl = 3 ∨ lvl = 4 by omega) with rfl | rfl | rfl | rfl | rfl
      · exact zFb0 hW ih ho hp hlen hZ hT h d
      · exact zFb1 hW ih ho hp hlen hZ hT h d
      · exact zFb2 hW ih ho hp hlen hZ hT h d
      · exact zFb3 hW ih ho hp hlen hZ hT h d
      · exact zFb4 hW ih ho hp hlen hZ hT h d
end RM
