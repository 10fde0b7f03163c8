/-! REFERENCE: simple formulas -/
theorem k_at_lt {N : Nat → List Nat} {n i : Nat} {l : List Nat} {p : Nat} (h : k_at N n l p = some i) : i < n := by
  unfold k_at at h
  rcases a_ff_is (fun i => decide (N i = k_W l p)) n with ⟨k, hk, e1, -, -⟩ | ⟨e1, -⟩
  · rw [e1] at h; cases h; exact hk
  · rw [e1] at h; cases h
/-- where the reading of a formula stands, as against G -/
def zS (G G' : mg_G) (l : List Nat) (p o : Nat) (ts : List a_T) : Prop := rRf G G' ∧ rk G' l p ∧ rK G' ts ∧ G'.2.2.2.2 148 26 = .int (Int32.ofNat o) ∧ G'.2.2.2.2 148 6 = G.2.2.2.2 148 6 ∧ G'.2.2.2.2 148 7 = G.2.2.2.2 148 7
theorem zI.S {G : mg_G} {A : a_A} {l : List Nat} {p o : Nat} {ts : List a_T} (h : zI G A l p o ts) : zS G G l p o ts := ⟨rRf.rf G, h.2.2.1, h.2.2.2.1, h.2.2.2.2, rfl, rfl⟩
theorem zS.I {G G' : mg_G} {A : a_A} {l : List Nat} {p o : Nat} {ts : List a_T} (h : zS G G' l p o ts) (hI : rI G A) (hN : rIn G l) : zI G' A l p o ts := ⟨h.1.I hI, h.1.n hN, h.2.1, h.2.2.1, h.2.2.2.1⟩
theorem zS.f {G G' G2 : mg_G} {l : List Nat} {p q o : Nat} {ts : List a_T} (h : zS G G' l p o ts) (hk : rk G2 l q) (hf : rKf G' G2) : zS G G2 l q o ts := ⟨h.1.tr hf.o.R, hk, hf.o.K h.2.2.1, (hf.2.2.2.2 148 26 (by decide)).trans h.2.2.2.1, (hf.2.2.2.2 148 6 (by decide)).trans h.2.2.2.2.1, (hf.2.2.2.2 148 7 (by decide)).trans h.2.2.2.2.2⟩
theorem zS.o {G G' G2 : mg_G} {l : List Nat} {p q o o' : Nat} {ts : List a_T} (h : zS G G' l p o ts) (hk : rk G2 l q) (ho : G2.2.2.2.2 148 26 = .int (Int32.ofNat o')) (hf : rKo G' G2) : zS G G2 l q o' ts := ⟨h.1.tr hf.R, hk, hf.K h.2.2.1, ho, (hf.2.2.2.2 148 6 (by decide)).trans h.2.2.2.2.1, (hf.2.2.2.2 148 7 (by decide)).trans h.2.2.2.2.2⟩
theorem zS.X {G G' G2 : mg_G} {l : List Nat} {p o : Nat} {ts ts' : List a_T} (h : zS G G' l p o ts) (hX : rX G' G2) (hK : rK G2 ts') : zS G G2 l p o ts' := ⟨h.1.tr hX.R, hX.k h.2.1, hK, (hX.2.2.2 148 26 (by decide)).trans h.2.2.2.1, (hX.2.2.2 148 6 (by decide)).trans h.2.2.2.2.1, (hX.2.2.2 148 7 (by decide)).trans h.2.2.2.2.2⟩
theorem zS.q {G G1 G2 : mg_G} {l : List Nat} {p q o : Nat} {ts : List a_T} {T : a_T} {ou : Option Value ⊕ String} {k : Nat} (h : zS G G1 l p o ts) (w : zQ G1 l o ts (.inr (T, q)) ou k G2) : k = 0 ∧ ou = .inl (some (.int 1)) ∧ zS G G2 l q o (ts ++ [T]) := ⟨w.1, w.2.2.1, h.1.tr w.2.1, w.2.2.2.1, w.2.2.2.2.1, w.2.2.2.2.2.1, w.2.2.2.2.2.2.1.trans h.2.2.2.2.1, w.2.2.2.2.2.2.2.trans h.2.2.2.2.2⟩
theorem zS.Q {G G' : mg_G} {l : List Nat} {p o : Nat} {ts : List a_T} {T : a_T} (h : zS G G' l p o (ts ++ [T])) : zQ G l o ts (.inr (T, p)) (.inl (some (.int 1))) 0 G' := ⟨rfl, h.1, rfl, h.2.1, h.2.2.1, h.2.2.2.1, h.2.2.2.2.1, h.2.2.2.2.2⟩
section RM
variable {scr : Nat × (Nat → Int32)} {t : List mg_S} {A : a_A} {l : List Nat} {n o p : Nat} {ts : List a_T} {r : zEr ⊕ (a_T × Nat)} {G G0 : mg_G}
theorem r219A (d : Nat) (hZ : zI G A l p o ts) (hp : p ≤ l.length) (h1 : k_K l p = 1) : mg_m (mg_KM scr t) (d + 2) 219 [.ref 148] G (mg_v (.int (a_oi (k_v A l p))) G) := r219 d hZ.2.1 hZ.2.2.1 hp h1 hZ.1.v (Nat.le_of_lt_succ hZ.1.v8) (fun v hv => ⟨hZ.1.vn hv, (hZ.1.W.2.2.2.2.1 v hv).1⟩)
theorem r220A (d : Nat) (hZ : zI G A l p o ts) (hp : p ≤ l.length) (h1 : k_K l p = 1) : mg_m (mg_KM scr t) (d + 2) 220 [.ref 148] G (mg_v (.int (a_oi (k_f A l p))) G) := r220 d hZ.2.1 hZ.2.2.1 hp h1 hZ.1.f hZ.1.f12 (fun f hf => ⟨hZ.1.fn hf, hZ.1.W.2.2.2.2.2.1 f hf⟩)
theorem r240 (d : Nat) (hZ : zI G A l p o ts) (hp : p ≤ l.length) (h1 : k_K l p = 1) (hlen : ts.length < 390) (h : (match k_v A l p with
        | some v => some (.inr (a_var v, k_E l p))
        | none => match k_f A l p with
          | some f => some (.inr (aT A f, k_E l p))
          | none => zErr 3 l p) = some r) : mg_m (mg_KM scr t) (d + 4) 240 [.ref 148] G (zQ G l o ts r) := by
  have kv := r219A (scr := scr) (t := t) d hZ hp h1
  have kf := r220A (scr := scr) (t := t) d hZ hp h1
  have hE := k_E_le hp
  obtain ⟨hI, hN, hk, hK, h26⟩ := id hZ
  have h8 := hI.v8
  have h12 := hI.f12
  cases hv : k_v A l p with
  | some v =>
    have hv2 : v < aV A := k_at_lt hv
    rw [hv] at h kv
    cases h
    refine mg_me [] 30 my_240 ms_240 (Nat.le_of_ble_eq_true rfl) ?_
    repeat (first | refine ⟨_, mg_Fs rfl rfl, ?_⟩ | refine ⟨Or.inl rfl, ?_⟩ | refine ⟨Or.inr ⟨_, rfl⟩, ?_⟩ | refine ⟨fun _ => ?_, fun h => absurd h (by decide)⟩ | refine ⟨fun h => absurd h (by decide), fun _ => ?_⟩)
    refine mg_cv (kv) (by omega) ?_
    repeat (first | refine ⟨_, mg_Fs rfl rfl, ?_⟩ | refine ⟨Or.inl rfl, ?_⟩ | refine ⟨Or.inr ⟨_, rfl⟩, ?_⟩ | refine ⟨fun _ => ?_, fun h => absurd h (by decide)⟩ | refine ⟨fun h => absurd h (by decide), fun _ => ?_⟩)
    refine mg_cv (kf) (by omega) ?_
    refine ⟨fun _ => ?_, fun q => absurd q (mg_n1 (by omega))⟩
    refine ⟨fun q => absurd q (mg_n1 (by omega)), fun _ => ?_⟩
    repeat (first | refine ⟨_, mg_Fs rfl rfl, ?_⟩ | refine ⟨Or.inl rfl, ?_⟩ | refine ⟨Or.inr ⟨_, rfl⟩, ?_⟩ | refine ⟨fun _ => ?_, fun h => absurd h (by decide)⟩ | refine ⟨fun h => absurd h (by decide), fun _ => ?_⟩)
    refine mg_m_mono (r223 d hI (by omega) hK (by omega)) (by omega) ?_
    rintro ou q G1 ⟨rfl, rfl, hX, hK1⟩
    repeat (first | refine ⟨_, mg_Fs rfl rfl, ?_⟩ | refine ⟨Or.inl rfl, ?_⟩ | refine ⟨Or.inr ⟨_, rfl⟩, ?_⟩ | refine ⟨fun _ => ?_, fun h => absurd h (by decide)⟩ | refine ⟨fun h => absurd h (by decide), fun _ => ?_⟩)
    refine mg_m_mono (r210 d (hX.R.n hN) hE (hX.k hk).1) (by omega) ?_
    rintro ou q G2 ⟨rfl, rfl, hk2, hf2⟩
    exact ⟨Or.inr rfl, ((hZ.S.X hX hK1).f hk2 hf2).Q⟩
  | none =>
    rw [hv] at h kv
    cases hf : k_f A l p with
    | some f =>
      have hf2 : f < aF A := k_at_lt hf
      rw [hf] at kf
      have h : some (.inr (aT A f, k_E l p)) = some r := by
        rw [← h, hf]
      cases h
      refine mg_me [] 30 my_240 ms_240 (Nat.le_of_ble_eq_true rfl) ?_
      repeat (first | refine ⟨_, mg_Fs rfl rfl, ?_⟩ | refine ⟨Or.inl rfl, ?_⟩ | refine ⟨Or.inr ⟨_, rfl⟩, ?_⟩ | refine ⟨fun _ => ?_, fun h => absurd h (by decide)⟩ | refine ⟨fun h => absurd h (by decide), fun _ => ?_⟩)
      refine mg_cv (kv) (by omega) ?_
      repeat (first | refine ⟨_, mg_Fs rfl rfl, ?_⟩ | refine ⟨Or.inl rfl, ?_⟩ | refine ⟨Or.inr ⟨_, rfl⟩, ?_⟩ | refine ⟨fun _ => ?_, fun h => absurd h (by decide)⟩ | refine ⟨fun h => absurd h (by decide), fun _ => ?_⟩)
      refine mg_cv (kf) (by omega) ?_
      refine ⟨fun q => absurd rfl q, fun _ => ?_⟩
      refine ⟨fun _ => ?_, fun q => absurd q (mg_n1 (by omega))⟩
      refine ⟨fun _ => ?_, fun q => absurd rfl q⟩
      repeat (first | refine ⟨_, mg_Fs rfl rfl, ?_⟩ | refine ⟨Or.inl rfl, ?_⟩ | refine ⟨Or.inr ⟨_, rfl⟩, ?_⟩ | refine ⟨fun _ => ?_, fun h => absurd h (by decide)⟩ | refine ⟨fun h => absurd h (by decide), fun _ => ?_⟩)
      refine mg_m_mono (r224 d hI hf2 hK (by omega)) (by omega) ?_
      rintro ou q G1 ⟨rfl, rfl, hX, hK1⟩
      repeat (first | refine ⟨_, mg_Fs rfl rfl, ?_⟩ | refine ⟨Or.inl rfl, ?_⟩ | refine ⟨Or.inr ⟨_, rfl⟩, ?_⟩ | refine ⟨fun _ => ?_, fun h => absurd h (by decide)⟩ | refine ⟨fun h => absurd h (by decide), fun _ => ?_⟩)
      refine mg_m_mono (r210 d (hX.R.n hN) hE (hX.k hk).1) (by omega) ?_
      rintro ou q G2 ⟨rfl, rfl, hk2, hf2⟩
      exact ⟨Or.inr rfl, ((hZ.S.X hX hK1).f hk2 hf2).Q⟩
    | none =>
      rw [hf] at kf
      have h : zErr 3 l p = some r := by
        rw [← h, hf]
      cases h
      refine mg_me [] 30 my_240 ms_240 (Nat.le_of_ble_eq_true rfl) ?_
      repeat (first | refine ⟨_, mg_Fs rfl rfl, ?_⟩ | refine ⟨Or.inl rfl, ?_⟩ | refine ⟨Or.inr ⟨_, rfl⟩, ?_⟩ | refine ⟨fun _ => ?_, fun h => absurd h (by decide)⟩ | refine ⟨fun h => absurd h (by decide), fun _ => ?_⟩)
      refine mg_cv (kv) (by omega) ?_
      repeat (first | refine ⟨_, mg_Fs rfl rfl, ?_⟩ | refine ⟨Or.inl rfl, ?_⟩ | refine ⟨Or.inr ⟨_, rfl⟩, ?_⟩ | refine ⟨fun _ => ?_, fun h => absurd h (by decide)⟩ | refine ⟨fun h => absurd h (by decide), fun _ => ?_⟩)
      refine mg_cv (kf) (by omega) ?_
      refine ⟨fun q => absurd rfl q, fun _ => ?_⟩
      refine ⟨fun q => absurd rfl q, fun _ => ?_⟩
      repeat (first | refine ⟨_, mg_Fs rfl rfl, ?_⟩ | refine ⟨Or.inl rfl, ?_⟩ | refine ⟨Or.inr ⟨_, rfl⟩, ?_⟩ | refine ⟨fun _ => ?_, fun h => absurd h (by decide)⟩ | refine ⟨fun h => absurd h (by decide), fun _ => ?_⟩)
      refine mg_cv (r212 d hk 3) (by omega) ?_
      exact ⟨Or.inr rfl, zQ_x (rRf.rf G)⟩
theorem r238 (hW : aW A) (ih : zIH scr t A l n) (ho : o ≤ 20) (hp : p ≤ l.length) (hlen : ts.length ≤ 7 * o + 5) (hZ : zI G A l p o ts) (h0 : k_S l p < k_E l p) (h : (if k_nm l (k_E l p) = true then (match k_v A l (k_E l p) with
          | none => zErr 3 l (k_E l p)
          | some v => zB (zP A l n 5 none o (k_E l (k_E l p))) (fun T q => some (.inr (a_qu (k_wd l p w_all) v T, q))))
        else zErr 1 l (k_E l p)) = some r) (d : Nat) : mg_m (mg_KM scr t) (d + 8 * (20 - o) + (l.length - p) + 10) 238 [.ref 148] G (zQ G l o ts r) := by
  have hE := k_E_le hp
  have hEE := k_E_le hE
  have hS := k_S_ge l p
  obtain ⟨hI, hN, hk, hK, h26⟩ := id hZ
  have h8 := hI.v8
  have ka := r213 (scr := scr) (t := t) d hN hk hp (a := 39) (by unfold k_ok; omega) (by decide)
  rw [show k_str 39 = w_all from by decide] at ka
  have st : ∀ G1 : mg_G, zS G G1 l (k_E l p) o ts → mg_wp (mg_KM scr t) mc_238 (d + 8 * (20 - o) + (l.length - p) + 9) 11 [some (.ref 148), some (.int (b2 (k_wd l p w_all))), none] [] G1 (zQ G l o ts r) := fun G1 hS1 => by
    have hZ1 := hS1.I hI hN
    have kn := r217 (scr := scr) (t := t) d hZ1.2.1 hZ1.2.2.1 hE
    cases hn : k_nm l (k_E l p) with
    | false =>
      rw [hn, if_neg (by decide)] at h
      cases h
      rw [hn] at kn
      refine mg_go [] 40 11 ms_238 ?_
      repeat (first | refine ⟨_, mg_Fs rfl rfl, ?_⟩ | refine ⟨Or.inl rfl, ?_⟩ | refine ⟨Or.inr ⟨_, rfl⟩, ?_⟩ | refine ⟨fun _ => ?_, fun h => absurd h (by decide)⟩ | refine ⟨fun h => absurd h (by decide), fun _ => ?_⟩)
      refine mg_cv (kn) (by omega) ?_
      refine ⟨fun q => absurd rfl q, fun _ => ?_⟩
      repeat (first | refine ⟨_, mg_Fs rfl rfl, ?_⟩ | refine ⟨Or.inl rfl, ?_⟩ | refine ⟨Or.inr ⟨_, rfl⟩, ?_⟩ | refine ⟨fun _ => ?_, fun h => absurd h (by decide)⟩ | refine ⟨fun h => absurd h (by decide), fun _ => ?_⟩)
      refine mg_cv (r212 d hZ1.2.2.1 1) (by omega) ?_
      exact ⟨Or.inr rfl, zQ_x hS1.1⟩
    | true =>
      rw [hn, if_pos rfl] at h
      rw [hn] at kn
      have h1 := k_nm_1 hn
      have hlt := k_E_lt (l := l) (p := k_E l p) (by rw [h1]; decide)
      have hS2 := k_S_ge l (k_E l p)
      have kv := r219A (scr := scr) (t := t) d hZ1 hE h1
      cases hv : k_v A l (k_E l p) with
      | none =>
        rw [hv] at h kv
        cases h
        refine mg_go [] 40 11 ms_238 ?_
        repeat (first | refine ⟨_, mg_Fs rfl rfl, ?_⟩ | refine ⟨Or.inl rfl, ?_⟩ | refine ⟨Or.inr ⟨_, rfl⟩, ?_⟩ | refine ⟨fun _ => ?_, fun h => absurd h (by decide)⟩ | refine ⟨fun h => absurd h (by decide), fun _ => ?_⟩)
        refine mg_cv (kn) (by omega) ?_
        refine ⟨fun _ => ?_, fun q => absurd q (by decide)⟩
        repeat (first | refine ⟨_, mg_Fs rfl rfl, ?_⟩ | refine ⟨Or.inl rfl, ?_⟩ | refine ⟨Or.inr ⟨_, rfl⟩, ?_⟩ | refine ⟨fun _ => ?_, fun h => absurd h (by decide)⟩ | refine ⟨fun h => absurd h (by decide), fun _ => ?_⟩)
        refine mg_cv (kv) (by omega) ?_
        refine ⟨fun q => absurd rfl q, fun _ => ?_⟩
        repeat (first | refine ⟨_, mg_Fs rfl rfl, ?_⟩ | refine ⟨Or.inl rfl, ?_⟩ | refine ⟨Or.inr ⟨_, rfl⟩, ?_⟩ | refine ⟨fun _ => ?_, fun h => absurd h (by decide)⟩ | refine ⟨fun h => absurd h (by decide), fun _ => ?_⟩)
        refine mg_cv (r212 d hZ1.2.2.1 3) (by omega) ?_
        exact ⟨Or.inr rfl, zQ_x hS1.1⟩
      | some v =>
        have hv2 : v < aV A := k_at_lt hv
        rw [hv] at h kv
        have h : zB (zP A l n 5 none o (k_E l (k_E l p))) (fun T q => some (.inr (a_qu (k_wd l p w_all) v T, q))) = some r := h
        rcases zB_s h with ⟨e, g1, rfl⟩ | ⟨T, q, g1, g2⟩
        · refine mg_go [] 40 11 ms_238 ?_
          repeat (first | refine ⟨_, mg_Fs rfl rfl, ?_⟩ | refine ⟨Or.inl rfl, ?_⟩ | refine ⟨Or.inr ⟨_, rfl⟩, ?_⟩ | refine ⟨fun _ => ?_, fun h => absurd h (by decide)⟩ | refine ⟨fun h => absurd h (by decide), fun _ => ?_⟩)
          refine mg_cv (kn) (by omega) ?_
          refine ⟨fun _ => ?_, fun q => absurd q (by decide)⟩
          repeat (first | refine ⟨_, mg_Fs rfl rfl, ?_⟩ | refine ⟨Or.inl rfl, ?_⟩ | refine ⟨Or.inr ⟨_, rfl⟩, ?_⟩ | refine ⟨fun _ => ?_, fun h => absurd h (by decide)⟩ | refine ⟨fun h => absurd h (by decide), fun _ => ?_⟩)
          refine mg_cv (kv) (by omega) ?_
          refine ⟨fun _ => ?_, fun q => absurd q (mg_n1 (by omega))⟩
          repeat (first | refine ⟨_, mg_Fs rfl rfl, ?_⟩ | refine ⟨Or.inl rfl, ?_⟩ | refine ⟨Or.inr ⟨_, rfl⟩, ?_⟩ | refine ⟨fun _ => ?_, fun h => absurd h (by decide)⟩ | refine ⟨fun h => absurd h (by decide), fun _ => ?_⟩)
          refine mg_m_mono (r210 d hZ1.2.1 hEE hZ1.2.2.1.1) (by omega) ?_
          rintro ou q G2 ⟨rfl, rfl, hk2, hf2⟩
          have hS3 := hS1.f hk2 hf2
          have k1 : mg_m (mg_KM scr t) (d + 8 * (20 - o) + (6 - 5) + (l.length - k_E l (k_E l p)) + 10) 241 [.ref 148] G2 (zQ G2 l o ts (.inl e)) := ih.1 5 o (k_E l (k_E l p)) ts _ G2 (by decide) ho hEE hlen (hS3.I hI hN) g1 d
          repeat (first | refine ⟨_, mg_Fs rfl rfl, ?_⟩ | refine ⟨Or.inl rfl, ?_⟩ | refine ⟨Or.inr ⟨_, rfl⟩, ?_⟩ | refine ⟨fun _ => ?_, fun h => absurd h (by decide)⟩ | refine ⟨fun h => absurd h (by decide), fun _ => ?_⟩)
          refine mg_m_mono (k1) (by omega) ?_
          rintro ou q G3 w
          obtain ⟨rfl, rfl, w2⟩ := zQ_e (o' := o) (ts' := ts) hS3.1 w
          exact ⟨fun q => absurd rfl q, fun _ => ⟨Or.inr rfl, w2⟩⟩
        · cases g2
          refine mg_go [] 40 11 ms_238 ?_
          repeat (first | refine ⟨_, mg_Fs rfl rfl, ?_⟩ | refine ⟨Or.inl rfl, ?_⟩ | refine ⟨Or.inr ⟨_, rfl⟩, ?_⟩ | refine ⟨fun _ => ?_, fun h => absurd h (by decide)⟩ | refine ⟨fun h => absurd h (by decide), fun _ => ?_⟩)
          refine mg_cv (kn) (by omega) ?_
          refine ⟨fun _ => ?_, fun q => absurd q (by decide)⟩
          repeat (first | refine ⟨_, mg_Fs rfl rfl, ?_⟩ | refine ⟨Or.inl rfl, ?_⟩ | refine ⟨Or.inr ⟨_, rfl⟩, ?_⟩ | refine ⟨fun _ => ?_, fun h => absurd h (by decide)⟩ | refine ⟨fun h => absurd h (by decide), fun _ => ?_⟩)
          refine mg_cv (kv) (by omega) ?_
          refine ⟨fun _ => ?_, fun q => absurd q (mg_n1 (by omega))⟩
          repeat (first | refine ⟨_, mg_Fs rfl rfl, ?_⟩ | refine ⟨Or.inl rfl, ?_⟩ | refine ⟨Or.inr ⟨_, rfl⟩, ?_⟩ | refine ⟨fun _ => ?_, fun h => absurd h (by decide)⟩ | refine ⟨fun h => absurd h (by decide), fun _ => ?_⟩)
          refine mg_m_mono (r210 d hZ1.2.1 hEE hZ1.2.2.1.1) (by omega) ?_
          rintro ou q' G2 ⟨rfl, rfl, hk2, hf2⟩
          have hS3 := hS1.f hk2 hf2
          have k1 : mg_m (mg_KM scr t) (d + 8 * (20 - o) + (6 - 5) + (l.length - k_E l (k_E l p)) + 10) 241 [.ref 148] G2 (zQ G2 l o ts (.inr (T, q))) := ih.1 5 o (k_E l (k_E l p)) ts _ G2 (by decide) ho hEE hlen (hS3.I hI hN) g1 d
          repeat (first | refine ⟨_, mg_Fs rfl rfl, ?_⟩ | refine ⟨Or.inl rfl, ?_⟩ | refine ⟨Or.inr ⟨_, rfl⟩, ?_⟩ | refine ⟨fun _ => ?_, fun h => absurd h (by decide)⟩ | refine ⟨fun h => absurd h (by decide), fun _ => ?_⟩)
          refine mg_m_mono (k1) (by omega) ?_
          rintro ou q' G3 w
          obtain ⟨rfl, rfl, hS4⟩ := hS3.q w
          refine ⟨fun _ => ?_, fun q => absurd q (by decide)⟩
          have hI4 : rI G3 A := hS4.1.I hI
          repeat (first | refine ⟨_, mg_Fs rfl rfl, ?_⟩ | refine ⟨Or.inl rfl, ?_⟩ | refine ⟨Or.inr ⟨_, rfl⟩, ?_⟩ | refine ⟨fun _ => ?_, fun h => absurd h (by decide)⟩ | refine ⟨fun h => absurd h (by decide), fun _ => ?_⟩)
          refine mg_m_mono (r230 d v hI4.1 (by omega) (k_wd l p w_all) hS4.2.2.1 (by omega)) (by omega) ?_
          rintro ou q' G4 ⟨rfl, rfl, hX, hK5⟩
          exact ⟨Or.inr rfl, (hS4.X hX hK5).Q⟩
  refine mg_me [11] 40 my_238 ms_238 (Nat.le_of_ble_eq_true rfl) ?_
  repeat (first | refine ⟨_, mg_Fs rfl rfl, ?_⟩ | refine ⟨Or.inl rfl, ?_⟩ | refine ⟨Or.inr ⟨_, rfl⟩, ?_⟩ | refine ⟨fun _ => ?_, fun h => absurd h (by decide)⟩ | refine ⟨fun h => absurd h (by decide), fun _ => ?_⟩)
  refine mg_cv (ka) (by omega) ?_
  repeat (first | refine ⟨_, mg_Fs rfl rfl, ?_⟩ | refine ⟨Or.inl rfl, ?_⟩ | refine ⟨Or.inr ⟨_, rfl⟩, ?_⟩ | refine ⟨fun _ => ?_, fun h => absurd h (by decide)⟩ | refine ⟨fun h => absurd h (by decide), fun _ => ?_⟩)
  refine mg_m_mono (r210 d hN hE hk.1) (by omega) ?_
  rintro ou q G1 ⟨rfl, rfl, hk1, hf1⟩
  exact st G1 (hZ.S.f hk1 hf1)
end RM
