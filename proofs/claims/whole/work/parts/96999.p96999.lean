/-! REFERENCE: the levels of formulas -/
theorem zQ_t {G0 G1 G' : mg_G} {l : List Nat} {o : Nat} {ts : List a_T} {r : zEr ⊕ (a_T × Nat)} {ou : Option Value ⊕ String} {q : Nat} (h : rRf G0 G1) (e6 : G1.2.2.2.2 148 6 = G0.2.2.2.2 148 6) (e7 : G1.2.2.2.2 148 7 = G0.2.2.2.2 148 7) (w : zQ G1 l o ts r ou q G') : zQ G0 l o ts r ou q G' := by
  cases r with
  | inl e => exact ⟨w.1, h.tr w.2.1, w.2.2⟩
  | inr x => exact ⟨w.1, h.tr w.2.1, w.2.2.1, w.2.2.2.1, w.2.2.2.2.1, w.2.2.2.2.2.1, w.2.2.2.2.2.2.1.trans e6, w.2.2.2.2.2.2.2.trans e7⟩
theorem zP_okn {A : a_A} (hW : aW A) {l : List Nat} {n lvl o p q : Nat} {T : a_T} (hp : p ≤ l.length) (h : zP A l n lvl none o p = some (.inr (T, q))) : p ≤ q ∧ q ≤ l.length ∧ a_per (aV A) T ∧ p < q := by
  obtain ⟨h1, h2, h3, h4⟩ := zP_ok hW n lvl none o p hp (fun _ q => by cases q) T q h
  exact ⟨h1, h2, h3, h4 rfl⟩
section RM
variable {scr : Nat × (Nat → Int32)} {t : List mg_S} {A : a_A} {l : List Nat} {n o p : Nat} {ts : List a_T} {r : zEr ⊕ (a_T × Nat)} {G : mg_G} {T : a_T}
theorem zFa0 (hW : aW A) (ih : zIH scr t A l n) (ho : o ≤ 20) (hp : p ≤ l.length) (hlen : ts.length ≤ 7 * o + 0) (hZ : zI G A l p o ts) (h : zP A l (n + 1) 0 none o p = some r) (d : Nat) : mg_m (mg_KM scr t) (d + 8 * (20 - o) + (6 - 0) + (l.length - p) + 10) 231 [.ref 148] G (zQ G l o ts r) := by
  have h : zB (zP A l n (0 + 1) none o p) (fun T q => zP A l n 0 (some T) o q) = some r := h
  rcases zB_s h with ⟨e, h1, rfl⟩ | ⟨T, q, h1, h2⟩
  · have k1 : mg_m (mg_KM scr t) (d + 8 * (20 - o) + (6 - (0 + 1)) + (l.length - p) + 10) 232 [.ref 148] G (zQ G l o ts (.inl e)) := ih.1 (0 + 1) o p ts _ G (by omega) ho hp (by omega) hZ h1 d
    refine mg_me [9] 20 my_231 ms_231 (Nat.le_of_ble_eq_true rfl) ?_
    repeat (first | refine ⟨_, mg_Fs rfl rfl, ?_⟩ | refine ⟨Or.inl rfl, ?_⟩ | refine ⟨Or.inr ⟨_, rfl⟩, ?_⟩ | refine ⟨fun _ => ?_, fun h => absurd h (by decide)⟩ | refine ⟨fun h => absurd h (by decide), fun _ => ?_⟩)
    refine mg_m_mono (k1) (by omega) ?_
    rintro ou q G1 w
    obtain ⟨rfl, rfl, w2⟩ := zQ_e (o' := o) (ts' := ts) (rRf.rf G) w
    exact ⟨fun q => absurd rfl q, fun _ => ⟨Or.inr rfl, w2⟩⟩
  · have k1 : mg_m (mg_KM scr t) (d + 8 * (20 - o) + (6 - (0 + 1)) + (l.length - p) + 10) 232 [.ref 148] G (zQ G l o ts (.inr (T, q))) := ih.1 (0 + 1) o p ts _ G (by omega) ho hp (by omega) hZ h1 d
    obtain ⟨m1, m2, m3, m4⟩ := zP_okn hW hp h1
    refine mg_me [9] 20 my_231 ms_231 (Nat.le_of_ble_eq_true rfl) ?_
    repeat (first | refine ⟨_, mg_Fs rfl rfl, ?_⟩ | refine ⟨Or.inl rfl, ?_⟩ | refine ⟨Or.inr ⟨_, rfl⟩, ?_⟩ | refine ⟨fun _ => ?_, fun h => absurd h (by decide)⟩ | refine ⟨fun h => absurd h (by decide), fun _ => ?_⟩)
    refine mg_m_mono (k1) (by omega) ?_
    rintro ou q' G1 ⟨rfl, hR, rfl, hk1, hK1, h26, e6, e7⟩
    refine ⟨fun _ => ?_, fun q => absurd q (by decide)⟩
    have k2 : mg_wp (mg_KM scr t) mc_231 (d + (q - p) + 8 * (20 - o) + (6 - 0) + (l.length - q) + 9) 9 [some (.ref 148)] [] G1 (zQ G1 l o ts r) := ih.2 0 o q ts T r G1 (by decide) ho m2 (by omega) ⟨hR.I hZ.1, hR.n hZ.2.1, hk1, hK1, h26⟩ m3 h2 (d + (q - p))
    rw [show d + (q - p) + 8 * (20 - o) + (6 - 0) + (l.length - q) + 9 = d + 8 * (20 - o) + (6 - 0) + (l.length - p) + 9 by omega] at k2
    exact mg_wp_mono k2 (fun ou q2 G2 w => zQ_t hR e6 e7 w)
theorem zFb0 (hW : aW A) (ih : zIH scr t A l n) (ho : o ≤ 20) (hp : p ≤ l.length) (hlen : ts.length ≤ 7 * o + 0) (hZ : zI G A l p o (ts ++ [T])) (hT : a_per (aV A) T) (h : zP A l (n + 1) 0 (some T) o p = some r) (d : Nat) : mg_wp (mg_KM scr t) mc_231 (d + 8 * (20 - o) + (6 - 0) + (l.length - p) + 9) 9 [some (.ref 148)] [] G (zQ G l o ts r) := by
  have h : (if k_is l p 61 = true then zB (zP A l n (0 + 1) none o (k_E l p)) (fun U q => if 0 = 1 then some (.inr (a_op (k_op 0) T U, q)) else zP A l n 0 (some (a_op (k_op 0) T U)) o q) else some (.inr (T, p))) = some r := h
  obtain ⟨hI, hN, hk, hK, h26⟩ := hZ
  have ks := r214 (scr := scr) (t := t) d hN hk hp (c := 61) (by decide)
  have eop : Int32.ofInt 4 = k_op 0 := by decide
  cases hs : k_is l p 61 with
  | false =>
    rw [hs, if_neg (by decide)] at h
    cases h
    rw [hs] at ks
    refine mg_go [9] 40 9 ms_231 ?_
    repeat (first | refine ⟨_, mg_Fs rfl rfl, ?_⟩ | refine ⟨Or.inl rfl, ?_⟩ | refine ⟨Or.inr ⟨_, rfl⟩, ?_⟩ | refine ⟨fun _ => ?_, fun h => absurd h (by decide)⟩ | refine ⟨fun h => absurd h (by decide), fun _ => ?_⟩)
    refine mg_cv (ks) (by omega) ?_
    exact ⟨fun _ => ⟨Or.inr rfl, rfl, rRf.rf G, rfl, hk, hK, h26, rfl, rfl⟩, fun q => absurd rfl q⟩
  | true =>
    rw [hs, if_pos rfl] at h
    rw [hs] at ks
    have hE := k_E_le hp
    have hlt := k_is_E hs
    have hS := k_S_ge l p
    rcases zB_s h with ⟨e, h1, rfl⟩ | ⟨U, q, h1, h2⟩
    · refine mg_go [9] 40 9 ms_231 ?_
      repeat (first | refine ⟨_, mg_Fs rfl rfl, ?_⟩ | refine ⟨Or.inl rfl, ?_⟩ | refine ⟨Or.inr ⟨_, rfl⟩, ?_⟩ | refine ⟨fun _ => ?_, fun h => absurd h (by decide)⟩ | refine ⟨fun h => absurd h (by decide), fun _ => ?_⟩)
      refine mg_cv (ks) (by omega) ?_
      refine ⟨fun q => absurd q (by decide), fun _ => ?_⟩
      repeat (first | refine ⟨_, mg_Fs rfl rfl, ?_⟩ | refine ⟨Or.inl rfl, ?_⟩ | refine ⟨Or.inr ⟨_, rfl⟩, ?_⟩ | refine ⟨fun _ => ?_, fun h => absurd h (by decide)⟩ | refine ⟨fun h => absurd h (by decide), fun _ => ?_⟩)
      refine mg_m_mono (r210 d hN hE hk.1) (by omega) ?_
      rintro ou q1 G1 ⟨rfl, rfl, hk1, hf1⟩
      have k1 : mg_m (mg_KM scr t) (d + 8 * (20 - o) + (6 - (0 + 1)) + (l.length - k_E l p) + 10) 232 [.ref 148] G1 (zQ G1 l o (ts ++ [T]) (.inl e)) := ih.1 (0 + 1) o (k_E l p) (ts ++ [T]) _ G1 (by omega) ho hE (by rw [List.length_append]; show ts.length + 1 ≤ _; omega) ⟨hf1.o.R.I hI, hf1.n hN, hk1, hf1.o.K hK, (hf1.2.2.2.2 148 26 (by decide)).trans h26⟩ h1 d
      repeat (first | refine ⟨_, mg_Fs rfl rfl, ?_⟩ | refine ⟨Or.inl rfl, ?_⟩ | refine ⟨Or.inr ⟨_, rfl⟩, ?_⟩ | refine ⟨fun _ => ?_, fun h => absurd h (by decide)⟩ | refine ⟨fun h => absurd h (by decide), fun _ => ?_⟩)
      refine mg_m_mono (k1) (by omega) ?_
      rintro ou q G2 w
      obtain ⟨rfl, rfl, w2⟩ := zQ_e (o' := o) (ts' := ts) hf1.o.R w
      exact ⟨fun q => absurd rfl q, fun _ => ⟨Or.inr rfl, w2⟩⟩
    · obtain ⟨m1, m2, m3, m4⟩ := zP_okn hW hE h1
      refine mg_go [9] 40 9 ms_231 ?_
      repeat (first | refine ⟨_, mg_Fs rfl rfl, ?_⟩ | refine ⟨Or.inl rfl, ?_⟩ | refine ⟨Or.inr ⟨_, rfl⟩, ?_⟩ | refine ⟨fun _ => ?_, fun h => absurd h (by decide)⟩ | refine ⟨fun h => absurd h (by decide), fun _ => ?_⟩)
      refine mg_cv (ks) (by omega) ?_
      refine ⟨fun q => absurd q (by decide), fun _ => ?_⟩
      repeat (first | refine ⟨_, mg_Fs rfl rfl, ?_⟩ | refine ⟨Or.inl rfl, ?_⟩ | refine ⟨Or.inr ⟨_, rfl⟩, ?_⟩ | refine ⟨fun _ => ?_, fun h => absurd h (by decide)⟩ | refine ⟨fun h => absurd h (by decide), fun _ => ?_⟩)
      refine mg_m_mono (r210 d hN hE hk.1) (by omega) ?_
      rintro ou q1 G1 ⟨rfl, rfl, hk1, hf1⟩
      have k1 : mg_m (mg_KM scr t) (d + 8 * (20 - o) + (6 - (0 + 1)) + (l.length - k_E l p) + 10) 232 [.ref 148] G1 (zQ G1 l o (ts ++ [T]) (.inr (U, q))) := ih.1 (0 + 1) o (k_E l p) (ts ++ [T]) _ G1 (by omega) ho hE (by rw [List.length_append]; show ts.length + 1 ≤ _; omega) ⟨hf1.o.R.I hI, hf1.n hN, hk1, hf1.o.K hK, (hf1.2.2.2.2 148 26 (by decide)).trans h26⟩ h1 d
      repeat (first | refine ⟨_, mg_Fs rfl rfl, ?_⟩ | refine ⟨Or.inl rfl, ?_⟩ | refine ⟨Or.inr ⟨_, rfl⟩, ?_⟩ | refine ⟨fun _ => ?_, fun h => absurd h (by decide)⟩ | refine ⟨fun h => absurd h (by decide), fun _ => ?_⟩)
      refine mg_m_mono (k1) (by omega) ?_
      rintro ou q' G2 ⟨rfl, hR, rfl, hk2, hK2, g26, e6, e7⟩
      have hK2 : rK G2 (ts ++ [T, U]) := by
        rw [List.append_assoc] at hK2
        exact hK2
      have kf := r227 (scr := scr) (t := t) d (k_op 0) hK2 (by omega)
      rw [← eop] at kf
      refine ⟨fun _ => ?_, fun q => absurd q (by decide)⟩
      repeat (first | refine ⟨_, mg_Fs rfl rfl, ?_⟩ | refine ⟨Or.inl rfl, ?_⟩ | refine ⟨Or.inr ⟨_, rfl⟩, ?_⟩ | refine ⟨fun _ => ?_, fun h => absurd h (by decide)⟩ | refine ⟨fun h => absurd h (by decide), fun _ => ?_⟩)
      refine mg_m_mono (kf) (by omega) ?_
      rintro ou q' G3 ⟨rfl, rfl, hX, hK3⟩
      have hRa := (hf1.o.R.tr hR).tr hX.R
      rw [if_neg (by decide)] at h2
      have k2 : mg_wp (mg_KM scr t) mc_231 (d + (q - p) + 8 * (20 - o) + (6 - 0) + (l.length - q) + 9) 9 [some (.ref 148)] [] G3 (zQ G3 l o ts r) := ih.2 0 o q ts (a_op (k_op 0) T U) r G3 (by decide) ho m2 hlen ⟨hRa.I hI, hRa.n hN, hX.k hk2, hK3, (hX.2.2.2 148 26 (by decide)).trans g26⟩ (a_per_op _ hT m3) h2 (d + (q - p))
      rw [show d + (q - p) + 8 * (20 - o) + (6 - 0) + (l.length - q) + 9 = d + 8 * (20 - o) + (6 - 0) + (l.length - p) + 9 by omega] at k2
      exact mg_wp_mono k2 (fun ou q2 G4 w => zQ_t hRa ((hX.2.2.2 148 6 (by decide)).trans (e6.trans (hf1.2.2.2.2 148 6 (by decide)))) ((hX.2.2.2 148 7 (by decide)).trans (e7.trans (hf1.2.2.2.2 148 7 (by decide)))) w)
theorem zFa1 (hW : aW A) (ih : zIH scr t A l n) (ho : o ≤ 20) (hp : p ≤ l.length) (hlen : ts.length ≤ 7 * o + 1) (hZ : zI G A l p o ts) (h : zP A l (n + 1) 1 none o p = some r) (d : Nat) : mg_m (mg_KM scr t) (d + 8 * (20 - o) + (6 - 1) + (l.length - p) + 10) 232 [.ref 148] G (zQ G l o ts r) := by
  have h : zB (zP A l n (1 + 1) none o p) (fun T q => zP A l n 1 (some T) o q) = some r := h
  rcases zB_s h with ⟨e, h1, rfl⟩ | ⟨T, q, h1, h2⟩
  · have k1 : mg_m (mg_KM scr t) (d + 8 * (20 - o) + (6 - (1 + 1)) + (l.length - p) + 10) 233 [.ref 148] G (zQ G l o ts (.inl e)) := ih.1 (1 + 1) o p ts _ G (by omega) ho hp (by omega) hZ h1 d
    refine mg_me [9] 20 my_232 ms_232 (Nat.le_of_ble_eq_true rfl) ?_
    repeat (first | refine ⟨_, mg_Fs rfl rfl, ?_⟩ | refine ⟨Or.inl rfl, ?_⟩ | refine ⟨Or.inr ⟨_, rfl⟩, ?_⟩ | refine ⟨fun _ => ?_, fun h => absurd h (by decide)⟩ | refine ⟨fun h => absurd h (by decide), fun _ => ?_⟩)
    refine mg_m_mono (k1) (by omega) ?_
    rintro ou q G1 w
    obtain ⟨rfl, rfl, w2⟩ := zQ_e (o' := o) (ts' := ts) (rRf.rf G) w
    exact ⟨fun q => absurd rfl q, fun _ => ⟨Or.inr rfl, w2⟩⟩
  · have k1 : mg_m (mg_KM scr t) (d + 8 * (20 - o) + (6 - (1 + 1)) + (l.length - p) + 10) 233 [.ref 148] G (zQ G l o ts (.inr (T, q))) := ih.1 (1 + 1) o p ts _ G (by omega) ho hp (by omega) hZ h1 d
    obtain ⟨m1, m2, m3, m4⟩ := zP_okn hW hp h1
    refine mg_me [9] 20 my_232 ms_232 (Nat.le_of_ble_eq_true rfl) ?_
    repeat (first | refine ⟨_, mg_Fs rfl rfl, ?_⟩ | refine ⟨Or.inl rfl, ?_⟩ | refine ⟨Or.inr ⟨_, rfl⟩, ?_⟩ | refine ⟨fun _ => ?_, fun h => absurd h (by decide)⟩ | refine ⟨fun h => absurd h (by decide), fun _ => ?_⟩)
    refine mg_m_mono (k1) (by omega) ?_
    rintro ou q' G1 ⟨rfl, hR, rfl, hk1, hK1, h26, e6, e7⟩
    refine ⟨fun _ => ?_, fun q => absurd q (by decide)⟩
    have k2 : mg_wp (mg_KM scr t) mc_232 (d + (q - p) + 8 * (20 - o) + (6 - 1) + (l.length - q) + 9) 9 [some (.ref 148)] [] G1 (zQ G1 l o ts r) := ih.2 1 o q ts T r G1 (by decide) ho m2 (by omega) ⟨hR.I hZ.1, hR.n hZ.2.1, hk1, hK1, h26⟩ m3 h2 (d + (q - p))
    rw [show d + (q - p) + 8 * (20 - o) + (6 - 1) + (l.length - q) + 9 = d + 8 * (20 - o) + (6 - 1) + (l.length - p) + 9 by omega] at k2
    exact mg_wp_mono k2 (fun ou q2 G2 w => zQ_t hR e6 e7 w)
theorem zFb1 (hW : aW A) (ih : zIH scr t A l n) (ho : o ≤ 20) (hp : p ≤ l.length) (hlen : ts.length ≤ 7 * o + 1) (hZ : zI G A l p o (ts ++ [T])) (hT : a_per (aV A) T) (h : zP A l (n + 1) 1 (some T) o p = some r) (d : Nat) : mg_wp (mg_KM scr t) mc_232 (d + 8 * (20 - o) + (6 - 1) + (l.length - p) + 9) 9 [some (.ref 148)] [] G (zQ G l o ts r) := by
  have h : (if k_is l p 62 = true then zB (zP A l n (1 + 1) none o (k_E l p)) (fun U q => if 1 = 1 then some (.inr (a_op (k_op 1) T U, q)) else zP A l n 1 (some (a_op (k_op 1) T U)) o q) else some (.inr (T, p))) = some r := h
  obtain ⟨hI, hN, hk, hK, h26⟩ := hZ
  have ks := r214 (scr := scr) (t := t) d hN hk hp (c := 62) (by decide)
  have eop : Int32.ofInt 3 = k_op 1 := by decide
  cases hs : k_is l p 62 with
  | false =>
    rw [hs, if_neg (by decide)] at h
    cases h
    rw [hs] at ks
    refine mg_go [9] 40 9 ms_232 ?_
    repeat (first | refine ⟨_, mg_Fs rfl rfl, ?_⟩ | refine ⟨Or.inl rfl, ?_⟩ | refine ⟨Or.inr ⟨_, rfl⟩, ?_⟩ | refine ⟨fun _ => ?_, fun h => absurd h (by decide)⟩ | refine ⟨fun h => absurd h (by decide), fun _ => ?_⟩)
    refine mg_cv (ks) (by omega) ?_
    exact ⟨fun q => absurd rfl q, fun _ => ⟨Or.inr rfl, rfl, rRf.rf G, rfl, hk, hK, h26, rfl, rfl⟩⟩
  | true =>
    rw [hs, if_pos rfl] at h
    rw [hs] at ks
    have hE := k_E_le hp
    have hlt := k_is_E hs
    have hS := k_S_ge l p
    rcases zB_s h with ⟨e, h1, rfl⟩ | ⟨U, q, h1, h2⟩
    · refine mg_go [9] 40 9 ms_232 ?_
      repeat (first | refine ⟨_, mg_Fs rfl rfl, ?_⟩ | refine ⟨Or.inl rfl, ?_⟩ | refine ⟨Or.inr ⟨_, rfl⟩, ?_⟩ | refine ⟨fun _ => ?_, fun h => absurd h (by decide)⟩ | refine ⟨fun h => absurd h (by decide), fun _ => ?_⟩)
      refine mg_cv (ks) (by omega) ?_
      refine ⟨fun _ => ?_, fun q => absurd q (by decide)⟩
      repeat (first | refine ⟨_, mg_Fs rfl rfl, ?_⟩ | refine ⟨Or.inl rfl, ?_⟩ | refine ⟨Or.inr ⟨_, rfl⟩, ?_⟩ | refine ⟨fun _ => ?_, fun h => absurd h (by decide)⟩ | refine ⟨fun h => absurd h (by decide), fun _ => ?_⟩)
      refine mg_m_mono (r210 d hN hE hk.1) (by omega) ?_
      rintro ou q1 G1 ⟨rfl, rfl, hk1, hf1⟩
      have k1 : mg_m (mg_KM scr t) (d + 8 * (20 - o) + (6 - (1 + 1)) + (l.length - k_E l p) + 10) 233 [.ref 148] G1 (zQ G1 l o (ts ++ [T]) (.inl e)) := ih.1 (1 + 1) o (k_E l p) (ts ++ [T]) _ G1 (by omega) ho hE (by rw [List.length_append]; show ts.length + 1 ≤ _; omega) ⟨hf1.o.R.I hI, hf1.n hN, hk1, hf1.o.K hK, (hf1.2.2.2.2 148 26 (by decide)).trans h26⟩ h1 d
      repeat (first | refine ⟨_, mg_Fs rfl rfl, ?_⟩ | refine ⟨Or.inl rfl, ?_⟩ | refine ⟨Or.inr ⟨_, rfl⟩, ?_⟩ | refine ⟨fun _ => ?_, fun h => absurd h (by decide)⟩ | refine ⟨fun h => absurd h (by decide), fun _ => ?_⟩)
      refine mg_m_mono (k1) (by omega) ?_
      rintro ou q G2 w
      obtain ⟨rfl, rfl, w2⟩ := zQ_e (o' := o) (ts' := ts) hf1.o.R w
      exact ⟨fun _ => ⟨Or.inr rfl, w2⟩, fun q => absurd rfl q⟩
    · obtain ⟨m1, m2, m3, m4⟩ := zP_okn hW hE h1
      refine mg_go [9] 40 9 ms_232 ?_
      repeat (first | refine ⟨_, mg_Fs rfl rfl, ?_⟩ | refine ⟨Or.inl rfl, ?_⟩ | refine ⟨Or.inr ⟨_, rfl⟩, ?_⟩ | refine ⟨fun _ => ?_, fun h => absurd h (by decide)⟩ | refine ⟨fun h => absurd h (by decide), fun _ => ?_⟩)
      refine mg_cv (ks) (by omega) ?_
      refine ⟨fun _ => ?_, fun q => absurd q (by decide)⟩
      repeat (first | refine ⟨_, mg_Fs rfl rfl, ?_⟩ | refine ⟨Or.inl rfl, ?_⟩ | refine ⟨Or.inr ⟨_, rfl⟩, ?_⟩ | refine ⟨fun _ => ?_, fun h => absurd h (by decide)⟩ | refine ⟨fun h => absurd h (by decide), fun _ => ?_⟩)
      refine mg_m_mono (r210 d hN hE hk.1) (by omega) ?_
      rintro ou q1 G1 ⟨rfl, rfl, hk1, hf1⟩
      have k1 : mg_m (mg_KM scr t) (d + 8 * (20 - o) + (6 - (1 + 1)) + (l.length - k_E l p) + 10) 233 [.ref 148] G1 (zQ G1 l o (ts ++ [T]) (.inr (U, q))) := ih.1 (1 + 1) o (k_E l p) (ts ++ [T]) _ G1 (by omega) ho hE (by rw [List.length_append]; show ts.length + 1 ≤ _; omega) ⟨hf1.o.R.I hI, hf1.n hN, hk1, hf1.o.K hK, (hf1.2.2.2.2 148 26 (by decide)).trans h26⟩ h1 d
      repeat (first | refine ⟨_, mg_Fs rfl rfl, ?_⟩ | refine ⟨Or.inl rfl, ?_⟩ | refine ⟨Or.inr ⟨_, rfl⟩, ?_⟩ | refine ⟨fun _ => ?_, fun h => absurd h (by decide)⟩ | refine ⟨fun h => absurd h (by decide), fun _ => ?_⟩)
      refine mg_m_mono (k1) (by omega) ?_
      rintro ou q' G2 ⟨rfl, hR, rfl, hk2, hK2, g26, e6, e7⟩
      have hK2 : rK G2 (ts ++ [T, U]) := by
        rw [List.append_assoc] at hK2
        exact hK2
      have kf := r227 (scr := scr) (t := t) d (k_op 1) hK2 (by omega)
      rw [← eop] at kf
      refine ⟨fun q => absurd q (by decide), fun _ => ?_⟩
      repeat (first | refine ⟨_, mg_Fs rfl rfl, ?_⟩ | refine ⟨Or.inl rfl, ?_⟩ | refine ⟨Or.inr ⟨_, rfl⟩, ?_⟩ | refine ⟨fun _ => ?_, fun h => absurd h (by decide)⟩ | refine ⟨fun h => absurd h (by decide), fun _ => ?_⟩)
      refine mg_m_mono (kf) (by omega) ?_
      rintro ou q' G3 ⟨rfl, rfl, hX, hK3⟩
      have hRa := (hf1.o.R.tr hR).tr hX.R
      rw [if_pos rfl] at h2
      cases h2
      exact ⟨fun q => absurd q (by decide), fun _ => ⟨Or.inr rfl, rfl, hRa, rfl, hX.k hk2, hK3, (hX.2.2.2 148 26 (by decide)).trans g26, (hX.2.2.2 148 6 (by decide)).trans (e6.trans (hf1.2.2.2.2 148 6 (by decide))), (hX.2.2.2 148 7 (by decide)).trans (e7.trans (hf1.2.2.2.2 148 7 (by decide)))⟩⟩
theorem zFa2 (hW : aW A) (ih : zIH scr t A l n) (ho : o ≤ 20) (hp : p ≤ l.length) (hlen : ts.length ≤ 7 * o + 2) (hZ : zI G A l p o ts) (h : zP A l (n + 1) 2 none o p = some r) (d : Nat) : mg_m (mg_KM scr t) (d + 8 * (20 - o) + (6 - 2) + (l.length - p) + 10) 233 [.ref 148] G (zQ G l o ts r) := by
  have h : zB (zP A l n (2 + 1) none o p) (fun T q => zP A l n 2 (some T) o q) = some r := h
  rcases zB_s h with ⟨e, h1, rfl⟩ | ⟨T, q, h1, h2⟩
  · have k1 : mg_m (mg_KM scr t) (d + 8 * (20 - o) + (6 - (2 + 1)) + (l.length - p) + 10) 234 [.ref 148] G (zQ G l o ts (.inl e)) := ih.1 (2 + 1) o p ts _ G (by omega) ho hp (by omega) hZ h1 d
    refine mg_me [9] 20 my_233 ms_233 (Nat.le_of_ble_eq_true rfl) ?_
    repeat (first | refine ⟨_, mg_Fs rfl rfl, ?_⟩ | refine ⟨Or.inl rfl, ?_⟩ | refine ⟨Or.inr ⟨_, rfl⟩, ?_⟩ | refine ⟨fun _ => ?_, fun h => absurd h (by decide)⟩ | refine ⟨fun h => absurd h (by decide), fun _ => ?_⟩)
    refine mg_m_mono (k1) (by omega) ?_
    rintro ou q G1 w
    obtain ⟨rfl, rfl, w2⟩ := zQ_e (o' := o) (ts' := ts) (rRf.rf G) w
    exact ⟨fun q => absurd rfl q, fun _ => ⟨Or.inr rfl, w2⟩⟩
  · have k1 : mg_m (mg_KM scr t) (d + 8 * (20 - o) + (6 - (2 + 1)) + (l.length - p) + 10) 234 [.ref 148] G (zQ G l o ts (.inr (T, q))) := ih.1 (2 + 1) o p ts _ G (by omega) ho hp (by omega) hZ h1 d
    obtain ⟨m1, m2, m3, m4⟩ := zP_okn hW hp h1
    refine mg_me [9] 20 my_233 ms_233 (Nat.le_of_ble_eq_true rfl) ?_
    repeat (first | refine ⟨_, mg_Fs rfl rfl, ?_⟩ | refine ⟨Or.inl rfl, ?_⟩ | refine ⟨Or.inr ⟨_, rfl⟩, ?_⟩ | refine ⟨fun _ => ?_, fun h => absurd h (by decide)⟩ | refine ⟨fun h => absurd h (by decide), fun _ => ?_⟩)
    refine mg_m_mono (k1) (by omega) ?_
    rintro ou q' G1 ⟨rfl, hR, rfl, hk1, hK1, h26, e6, e7⟩
    refine ⟨fun _ => ?_, fun q => absurd q (by decide)⟩
    have k2 : mg_wp (mg_KM scr t) mc_233 (d + (q - p) + 8 * (20 - o) + (6 - 2) + (l.length - q) + 9) 9 [some (.ref 148)] [] G1 (zQ G1 l o ts r) := ih.2 2 o q ts T r G1 (by decide) ho m2 (by omega) ⟨hR.I hZ.1, hR.n hZ.2.1, hk1, hK1, h26⟩ m3 h2 (d + (q - p))
    rw [show d + (q - p) + 8 * (20 - o) + (6 - 2) + (l.length - q) + 9 = d + 8 * (20 - o) + (6 - 2) + (l.length - p) + 9 by omega] at k2
    exact mg_wp_mono k2 (fun ou q2 G2 w => zQ_t hR e6 e7 w)
theorem zFb2 (hW : aW A) (ih : zIH scr t A l n) (ho : o ≤ 20) (hp : p ≤ l.length) (hlen : ts.length ≤ 7 * o + 2) (hZ : zI G A l p o (ts ++ [T])) (hT : a_per (aV A) T) (h : zP A l (n + 1) 2 (some T) o p = some r) (d : Nat) : mg_wp (mg_KM scr t) mc_233 (d + 8 * (20 - o) + (6 - 2) + (l.length - p) + 9) 9 [some (.ref 148)] [] G (zQ G l o ts r) := by
  have h : (if k_is l p 124 = true then zB (zP A l n (2 + 1) none o (k_E l p)) (fun U q => if 2 = 1 then some (.inr (a_op (k_op 2) T U, q)) else zP A l n 2 (some (a_op (k_op 2) T U)) o q) else some (.inr (T, p))) = some r := h
  obtain ⟨hI, hN, hk, hK, h26⟩ := hZ
  have ks := r214 (scr := scr) (t := t) d hN hk hp (c := 124) (by decide)
  have eop : Int32.ofInt 1 = k_op 2 := by decide
  cases hs : k_is l p 124 with
  | false =>
    rw [hs, if_neg (by decide)] at h
    cases h
    rw [hs] at ks
    refine mg_go [9] 40 9 ms_233 ?_
    repeat (first | refine ⟨_, mg_Fs rfl rfl, ?_⟩ | refine ⟨Or.inl rfl, ?_⟩ | refine ⟨Or.inr ⟨_, rfl⟩, ?_⟩ | refine ⟨fun _ => ?_, fun h => absurd h (by decide)⟩ | refine ⟨fun h => absurd h (by decide), fun _ => ?_⟩)
    refine mg_cv (ks) (by omega) ?_
    exact ⟨fun _ => ⟨Or.inr rfl, rfl, rRf.rf G, rfl, hk, hK, h26, rfl, rfl⟩, fun q => absurd rfl q⟩
  | true =>
    rw [hs, if_pos rfl] at h
    rw [hs] at ks
    have hE := k_E_le hp
    have hlt := k_is_E hs
    have hS := k_S_ge l p
    rcases zB_s h with ⟨e, h1, rfl⟩ | ⟨U, q, h1, h2⟩
    · refine mg_go [9] 40 9 ms_233 ?_
      repeat (first | refine ⟨_, mg_Fs rfl rfl, ?_⟩ | refine ⟨Or.inl rfl, ?_⟩ | refine ⟨Or.inr ⟨_, rfl⟩, ?_⟩ | refine ⟨fun _ => ?_, fun h => absurd h (by decide)⟩ | refine ⟨fun h => absurd h (by decide), fun _ => ?_⟩)
      refine mg_cv (ks) (by omega) ?_
      refine ⟨fun q => absurd q (by decide), fun _ => ?_⟩
      repeat (first | refine ⟨_, mg_Fs rfl rfl, ?_⟩ | refine ⟨Or.inl rfl, ?_⟩ | refine ⟨Or.inr ⟨_, rfl⟩, ?_⟩ | refine ⟨fun _ => ?_, fun h => absurd h (by decide)⟩ | refine ⟨fun h => absurd h (by decide), fun _ => ?_⟩)
      refine mg_m_mono (r210 d hN hE hk.1) (by omega) ?_
      rintro ou q1 G1 ⟨rfl, rfl, hk1, hf1⟩
      have k1 : mg_m (mg_KM scr t) (d + 8 * (20 - o) + (6 - (2 + 1)) + (l.length - k_E l p) + 10) 234 [.ref 148] G1 (zQ G1 l o (ts ++ [T]) (.inl e)) := ih.1 (2 + 1) o (k_E l p) (ts ++ [T]) _ G1 (by omega) ho hE (by rw [List.length_append]; show ts.length + 1 ≤ _; omega) ⟨hf1.o.R.I hI, hf1.n hN, hk1, hf1.o.K hK, (hf1.2.2.2.2 148 26 (by decide)).trans h26⟩ h1 d
      repeat (first | refine ⟨_, mg_Fs rfl rfl, ?_⟩ | refine ⟨Or.inl rfl, ?_⟩ | refine ⟨Or.inr ⟨_, rfl⟩, ?_⟩ | refine ⟨fun _ => ?_, fun h => absurd h (by decide)⟩ | refine ⟨fun h => absurd h (by decide), fun _ => ?_⟩)
      refine mg_m_mono (k1) (by omega) ?_
      rintro ou q G2 w
      obtain ⟨rfl, rfl, w2⟩ := zQ_e (o' := o) (ts' := ts) hf1.o.R w
      exact ⟨fun q => absurd rfl q, fun _ => ⟨Or.inr rfl, w2⟩⟩
    · obtain ⟨m1, m2, m3, m4⟩ := zP_okn hW hE h1
      refine mg_go [9] 40 9 ms_233 ?_
      repeat (first | refine ⟨_, mg_Fs rfl rfl, ?_⟩ | refine ⟨Or.inl rfl, ?_⟩ | refine ⟨Or.inr ⟨_, rfl⟩, ?_⟩ | refine ⟨fun _ => ?_, fun h => absurd h (by decide)⟩ | refine ⟨fun h => absurd h (by decide), fun _ => ?_⟩)
      refine mg_cv (ks) (by omega) ?_
      refine ⟨fun q => absurd q (by decide), fun _ => ?_⟩
      repeat (first | refine ⟨_, mg_Fs rfl rfl, ?_⟩ | refine ⟨Or.inl rfl, ?_⟩ | refine ⟨Or.inr ⟨_, rfl⟩, ?_⟩ | refine ⟨fun _ => ?_, fun h => absurd h (by decide)⟩ | refine ⟨fun h => absurd h (by decide), fun _ => ?_⟩)
      refine mg_m_mono (r210 d hN hE hk.1) (by omega) ?_
      rintro ou q1 G1 ⟨rfl, rfl, hk1, hf1⟩
      have k1 : mg_m (mg_KM scr t) (d + 8 * (20 - o) + (6 - (2 + 1)) + (l.length - k_E l p) + 10) 234 [.ref 148] G1 (zQ G1 l o (ts ++ [T]) (.inr (U, q))) := ih.1 (2 + 1) o (k_E l p) (ts ++ [T]) _ G1 (by omega) ho hE (by rw [List.length_append]; show ts.length + 1 ≤ _; omega) ⟨hf1.o.R.I hI, hf1.n hN, hk1, hf1.o.K hK, (hf1.2.2.2.2 148 26 (by decide)).trans h26⟩ h1 d
      repeat (first | refine ⟨_, mg_Fs rfl rfl, ?_⟩ | refine ⟨Or.inl rfl, ?_⟩ | refine ⟨Or.inr ⟨_, rfl⟩, ?_⟩ | refine ⟨fun _ => ?_, fun h => absurd h (by decide)⟩ | refine ⟨fun h => absurd h (by decide), fun _ => ?_⟩)
      refine mg_m_mono (k1) (by omega) ?_
      rintro ou q' G2 ⟨rfl, hR, rfl, hk2, hK2, g26, e6, e7⟩
      have hK2 : rK G2 (ts ++ [T, U]) := by
        rw [List.append_assoc] at hK2
        exact hK2
      have kf := r227 (scr := scr) (t := t) d (k_op 2) hK2 (by omega)
      rw [← eop] at kf
      refine ⟨fun _ => ?_, fun q => absurd q (by decide)⟩
      repeat (first | refine ⟨_, mg_Fs rfl rfl, ?_⟩ | refine ⟨Or.inl rfl, ?_⟩ | refine ⟨Or.inr ⟨_, rfl⟩, ?_⟩ | refine ⟨fun _ => ?_, fun h => absurd h (by decide)⟩ | refine ⟨fun h => absurd h (by decide), fun _ => ?_⟩)
      refine mg_m_mono (kf) (by omega) ?_
      rintro ou q' G3 ⟨rfl, rfl, hX, hK3⟩
      have hRa := (hf1.o.R.tr hR).tr hX.R
      rw [if_neg (by decide)] at h2
      have k2 : mg_wp (mg_KM scr t) mc_233 (d + (q - p) + 8 * (20 - o) + (6 - 2) + (l.length - q) + 9) 9 [some (.ref 148)] [] G3 (zQ G3 l o ts r) := ih.2 2 o q ts (a_op (k_op 2) T U) r G3 (by decide) ho m2 hlen ⟨hRa.I hI, hRa.n hN, hX.k hk2, hK3, (hX.2.2.2 148 26 (by decide)).trans g26⟩ (a_per_op _ hT m3) h2 (d + (q - p))
      rw [show d + (q - p) + 8 * (20 - o) + (6 - 2) + (l.length - q) + 9 = d + 8 * (20 - o) + (6 - 2) + (l.length - p) + 9 by omega] at k2
      exact mg_wp_mono k2 (fun ou q2 G4 w => zQ_t hRa ((hX.2.2.2 148 6 (by decide)).trans (e6.trans (hf1.2.2.2.2 148 6 (by decide)))) ((hX.2.2.2 148 7 (by decide)).trans (e7.trans (hf1.2.2.2.2 148 7 (by decide)))) w)
theorem zFa3 (hW : aW A) (ih : zIH scr t A l n) (ho : o ≤ 20) (hp : p ≤ l.length) (hlen : ts.length ≤ 7 * o + 3) (hZ : zI G A l p o ts) (h : zP A l (n + 1) 3 none o p = some r) (d : Nat) : mg_m (mg_KM scr t) (d + 8 * (20 - o) + (6 - 3) + (l.length - p) + 10) 234 [.ref 148] G (zQ G l o ts r) := by
  have h : zB (zP A l n (3 + 1) none o p) (fun T q => zP A l n 3 (some T) o q) = some r := h
  rcases zB_s h with ⟨e, h1, rfl⟩ | ⟨T, q, h1, h2⟩
  · have k1 : mg_m (mg_KM scr t) (d + 8 * (20 - o) + (6 - (3 + 1)) + (l.length - p) + 10) 235 [.ref 148] G (zQ G l o ts (.inl e)) := ih.1 (3 + 1) o p ts _ G (by omega) ho hp (by omega) hZ h1 d
    refine mg_me [9] 20 my_234 ms_234 (Nat.le_of_ble_eq_true rfl) ?_
    repeat (first | refine ⟨_, mg_Fs rfl rfl, ?_⟩ | refine ⟨Or.inl rfl, ?_⟩ | refine ⟨Or.inr ⟨_, rfl⟩, ?_⟩ | refine ⟨fun _ => ?_, fun h => absurd h (by decide)⟩ | refine ⟨fun h => absurd h (by decide), fun _ => ?_⟩)
    refine mg_m_mono (k1) (by omega) ?_
    rintro ou q G1 w
    obtain ⟨rfl, rfl, w2⟩ := zQ_e (o' := o) (ts' := ts) (rRf.rf G) w
    exact ⟨fun q => absurd rfl q, fun _ => ⟨Or.inr rfl, w2⟩⟩
  · have k1 : mg_m (mg_KM scr t) (d + 8 * (20 - o) + (6 - (3 + 1)) + (l.length - p) + 10) 235 [.ref 148] G (zQ G l o ts (.inr (T, q))) := ih.1 (3 + 1) o p ts _ G (by omega) ho hp (by omega) hZ h1 d
    obtain ⟨m1, m2, m3, m4⟩ := zP_okn hW hp h1
    refine mg_me [9] 20 my_234 ms_234 (Nat.le_of_ble_eq_true rfl) ?_
    repeat (first | refine ⟨_, mg_Fs rfl rfl, ?_⟩ | refine ⟨Or.inl rfl, ?_⟩ | refine ⟨Or.inr ⟨_, rfl⟩, ?_⟩ | refine ⟨fun _ => ?_, fun h => absurd h (by decide)⟩ | refine ⟨fun h => absurd h (by decide), fun _ => ?_⟩)
    refine mg_m_mono (k1) (by omega) ?_
    rintro ou q' G1 ⟨rfl, hR, rfl, hk1, hK1, h26, e6, e7⟩
    refine ⟨fun _ => ?_, fun q => absurd q (by decide)⟩
    have k2 : mg_wp (mg_KM scr t) mc_234 (d + (q - p) + 8 * (20 - o) + (6 - 3) + (l.length - q) + 9) 9 [some (.ref 148)] [] G1 (zQ G1 l o ts r) := ih.2 3 o q ts T r G1 (by decide) ho m2 (by omega) ⟨hR.I hZ.1, hR.n hZ.2.1, hk1, hK1, h26⟩ m3 h2 (d + (q - p))
    rw [show d + (q - p) + 8 * (20 - o) + (6 - 3) + (l.length - q) + 9 = d + 8 * (20 - o) + (6 - 3) + (l.length - p) + 9 by omega] at k2
    exact mg_wp_mono k2 (fun ou q2 G2 w => zQ_t hR e6 e7 w)
theorem zFb3 (hW : aW A) (ih : zIH scr t A l n) (ho : o ≤ 20) (hp : p ≤ l.length) (hlen : ts.length ≤ 7 * o + 3) (hZ : zI G A l p o (ts ++ [T])) (hT : a_per (aV A) T) (h : zP A l (n + 1) 3 (some T) o p = some r) (d : Nat) : mg_wp (mg_KM scr t) mc_234 (d + 8 * (20 - o) + (6 - 3) + (l.length - p) + 9) 9 [some (.ref 148)] [] G (zQ G l o ts r) := by
  have h : (if k_is l p 94 = true then zB (zP A l n (3 + 1) none o (k_E l p)) (fun U q => if 3 = 1 then some (.inr (a_op (k_op 3) T U, q)) else zP A l n 3 (some (a_op (k_op 3) T U)) o q) else some (.inr (T, p))) = some r := h
  obtain ⟨hI, hN, hk, hK, h26⟩ := hZ
  have ks := r214 (scr := scr) (t := t) d hN hk hp (c := 94) (by decide)
  have eop : Int32.ofInt 2 = k_op 3 := by decide
  cases hs : k_is l p 94 with
  | false =>
    rw [hs, if_neg (by decide)] at h
    cases h
    rw [hs] at ks
    refine mg_go [9] 40 9 ms_234 ?_
    repeat (first | refine ⟨_, mg_Fs rfl rfl, ?_⟩ | refine ⟨Or.inl rfl, ?_⟩ | refine ⟨Or.inr ⟨_, rfl⟩, ?_⟩ | refine ⟨fun _ => ?_, fun h => absurd h (by decide)⟩ | refine ⟨fun h => absurd h (by decide), fun _ => ?_⟩)
    refine mg_cv (ks) (by omega) ?_
    exact ⟨fun _ => ⟨Or.inr rfl, rfl, rRf.rf G, rfl, hk, hK, h26, rfl, rfl⟩, fun q => absurd rfl q⟩
  | true =>
    rw [hs, if_pos rfl] at h
    rw [hs] at ks
    have hE := k_E_le hp
    have hlt := k_is_E hs
    have hS := k_S_ge l p
    rcases zB_s h with ⟨e, h1, rfl⟩ | ⟨U, q, h1, h2⟩
    · refine mg_go [9] 40 9 ms_234 ?_
      repeat (first | refine ⟨_, mg_Fs rfl rfl, ?_⟩ | refine ⟨Or.inl rfl, ?_⟩ | refine ⟨Or.inr ⟨_, rfl⟩, ?_⟩ | refine ⟨fun _ => ?_, fun h => absurd h (by decide)⟩ | refine ⟨fun h => absurd h (by decide), fun _ => ?_⟩)
      refine mg_cv (ks) (by omega) ?_
      refine ⟨fun q => absurd q (by decide), fun _ => ?_⟩
      repeat (first | refine ⟨_, mg_Fs rfl rfl, ?_⟩ | refine ⟨Or.inl rfl, ?_⟩ | refine ⟨Or.inr ⟨_, rfl⟩, ?_⟩ | refine ⟨fun _ => ?_, fun h => absurd h (by decide)⟩ | refine ⟨fun h => absurd h (by decide), fun _ => ?_⟩)
      refine mg_m_mono (r210 d hN hE hk.1) (by omega) ?_
      rintro ou q1 G1 ⟨rfl, rfl, hk1, hf1⟩
      have k1 : mg_m (mg_KM scr t) (d + 8 * (20 - o) + (6 - (3 + 1)) + (l.length - k_E l p) + 10) 235 [.ref 148] G1 (zQ G1 l o (ts ++ [T]) (.inl e)) := ih.1 (3 + 1) o (k_E l p) (ts ++ [T]) _ G1 (by omega) ho hE (by rw [List.length_append]; show ts.length + 1 ≤ _; omega) ⟨hf1.o.R.I hI, hf1.n hN, hk1, hf1.o.K hK, (hf1.2.2.2.2 148 26 (by decide)).trans h26⟩ h1 d
      repeat (first | refine ⟨_, mg_Fs rfl rfl, ?_⟩ | refine ⟨Or.inl rfl, ?_⟩ | refine ⟨Or.inr ⟨_, rfl⟩, ?_⟩ | refine ⟨fun _ => ?_, fun h => absurd h (by decide)⟩ | refine ⟨fun h => absurd h (by decide), fun _ => ?_⟩)
      refine mg_m_mono (k1) (by omega) ?_
      rintro ou q G2 w
      obtain ⟨rfl, rfl, w2⟩ := zQ_e (o' := o) (ts' := ts) hf1.o.R w
      exact ⟨fun q => absurd rfl q, fun _ => ⟨Or.inr rfl, w2⟩⟩
    · obtain ⟨m1, m2, m3, m4⟩ := zP_okn hW hE h1
      refine mg_go [9] 40 9 ms_234 ?_
      repeat (first | refine ⟨_, mg_Fs rfl rfl, ?_⟩ | refine ⟨Or.inl rfl, ?_⟩ | refine ⟨Or.inr ⟨_, rfl⟩, ?_⟩ | refine ⟨fun _ => ?_, fun h => absurd h (by decide)⟩ | refine ⟨fun h => absurd h (by decide), fun _ => ?_⟩)
      refine mg_cv (ks) (by omega) ?_
      refine ⟨fun q => absurd q (by decide), fun _ => ?_⟩
      repeat (first | refine ⟨_, mg_Fs rfl rfl, ?_⟩ | refine ⟨Or.inl rfl, ?_⟩ | refine ⟨Or.inr ⟨_, rfl⟩, ?_⟩ | refine ⟨fun _ => ?_, fun h => absurd h (by decide)⟩ | refine ⟨fun h => absurd h (by decide), fun _ => ?_⟩)
      refine mg_m_mono (r210 d hN hE hk.1) (by omega) ?_
      rintro ou q1 G1 ⟨rfl, rfl, hk1, hf1⟩
      have k1 : mg_m (mg_KM scr t) (d + 8 * (20 - o) + (6 - (3 + 1)) + (l.length - k_E l p) + 10) 235 [.ref 148] G1 (zQ G1 l o (ts ++ [T]) (.inr (U, q))) := ih.1 (3 + 1) o (k_E l p) (ts ++ [T]) _ G1 (by omega) ho hE (by rw [List.length_append]; show ts.length + 1 ≤ _; omega) ⟨hf1.o.R.I hI, hf1.n hN, hk1, hf1.o.K hK, (hf1.2.2.2.2 148 26 (by decide)).trans h26⟩ h1 d
      repeat (first | refine ⟨_, mg_Fs rfl rfl, ?_⟩ | refine ⟨Or.inl rfl, ?_⟩ | refine ⟨Or.inr ⟨_, rfl⟩, ?_⟩ | refine ⟨fun _ => ?_, fun h => absurd h (by decide)⟩ | refine ⟨fun h => absurd h (by decide), fun _ => ?_⟩)
      refine mg_m_mono (k1) (by omega) ?_
      rintro ou q' G2 ⟨rfl, hR, rfl, hk2, hK2, g26, e6, e7⟩
      have hK2 : rK G2 (ts ++ [T, U]) := by
        rw [List.append_assoc] at hK2
        exact hK2
      have kf := r227 (scr := scr) (t := t) d (k_op 3) hK2 (by omega)
      rw [← eop] at kf
      refine ⟨fun _ => ?_, fun q => absurd q (by decide)⟩
      repeat (first | refine ⟨_, mg_Fs rfl rfl, ?_⟩ | refine ⟨Or.inl rfl, ?_⟩ | refine ⟨Or.inr ⟨_, rfl⟩, ?_⟩ | refine ⟨fun _ => ?_, fun h => absurd h (by decide)⟩ | refine ⟨fun h => absurd h (by decide), fun _ => ?_⟩)
      refine mg_m_mono (kf) (by omega) ?_
      rintro ou q' G3 ⟨rfl, rfl, hX, hK3⟩
      have hRa := (hf1.o.R.tr hR).tr hX.R
      rw [if_neg (by decide)] at h2
      have k2 : mg_wp (mg_KM scr t) mc_234 (d + (q - p) + 8 * (20 - o) + (6 - 3) + (l.length - q) + 9) 9 [some (.ref 148)] [] G3 (zQ G3 l o ts r) := ih.2 3 o q ts (a_op (k_op 3) T U) r G3 (by decide) ho m2 hlen ⟨hRa.I hI, hRa.n hN, hX.k hk2, hK3, (hX.2.2.2 148 26 (by decide)).trans g26⟩ (a_per_op _ hT m3) h2 (d + (q - p))
      rw [show d + (q - p) + 8 * (20 - o) + (6 - 3) + (l.length - q) + 9 = d + 8 * (20 - o) + (6 - 3) + (l.length - p) + 9 by omega] at k2
      exact mg_wp_mono k2 (fun ou q2 G4 w => zQ_t hRa ((hX.2.2.2 148 6 (by decide)).trans (e6.trans (hf1.2.2.2.2 148 6 (by decide)))) ((hX.2.2.2 148 7 (by decide)).trans (e7.trans (hf1.2.2.2.2 148 7 (by decide)))) w)
theorem zFa4 (hW : aW A) (ih : zIH scr t A l n) (ho : o ≤ 20) (hp : p ≤ l.length) (hlen : ts.length ≤ 7 * o + 4) (hZ : zI G A l p o ts) (h : zP A l (n + 1) 4 none o p = some r) (d : Nat) : mg_m (mg_KM scr t) (d + 8 * (20 - o) + (6 - 4) + (l.length - p) + 10) 235 [.ref 148] G (zQ G l o ts r) := by
  have h : zB (zP A l n (4 + 1) none o p) (fun T q => zP A l n 4 (some T) o q) = some r := h
  rcases zB_s h with ⟨e, h1, rfl⟩ | ⟨T, q, h1, h2⟩
  · have k1 : mg_m (mg_KM scr t) (d + 8 * (20 - o) + (6 - (4 + 1)) + (l.length - p) + 10) 241 [.ref 148] G (zQ G l o ts (.inl e)) := ih.1 (4 + 1) o p ts _ G (by omega) ho hp (by omega) hZ h1 d
    refine mg_me [9] 20 my_235 ms_235 (Nat.le_of_ble_eq_true rfl) ?_
    repeat (first | refine ⟨_, mg_Fs rfl rfl, ?_⟩ | refine ⟨Or.inl rfl, ?_⟩ | refine ⟨Or.inr ⟨_, rfl⟩, ?_⟩ | refine ⟨fun _ => ?_, fun h => absurd h (by decide)⟩ | refine ⟨fun h => absurd h (by decide), fun _ => ?_⟩)
    refine mg_m_mono (k1) (by omega) ?_
    rintro ou q G1 w
    obtain ⟨rfl, rfl, w2⟩ := zQ_e (o' := o) (ts' := ts) (rRf.rf G) w
    exact ⟨fun q => absurd rfl q, fun _ => ⟨Or.inr rfl, w2⟩⟩
  · have k1 : mg_m (mg_KM scr t) (d + 8 * (20 - o) + (6 - (4 + 1)) + (l.length - p) + 10) 241 [.ref 148] G (zQ G l o ts (.inr (T, q))) := ih.1 (4 + 1) o p ts _ G (by omega) ho hp (by omega) hZ h1 d
    obtain ⟨m1, m2, m3, m4⟩ := zP_okn hW hp h1
    refine mg_me [9] 20 my_235 ms_235 (Nat.le_of_ble_eq_true rfl) ?_
    repeat (first | refine ⟨_, mg_Fs rfl rfl, ?_⟩ | refine ⟨Or.inl rfl, ?_⟩ | refine ⟨Or.inr ⟨_, rfl⟩, ?_⟩ | refine ⟨fun _ => ?_, fun h => absurd h (by decide)⟩ | refine ⟨fun h => absurd h (by decide), fun _ => ?_⟩)
    refine mg_m_mono (k1) (by omega) ?_
    rintro ou q' G1 ⟨rfl, hR, rfl, hk1, hK1, h26, e6, e7⟩
    refine ⟨fun _ => ?_, fun q => absurd q (by decide)⟩
    have k2 : mg_wp (mg_KM scr t) mc_235 (d + (q - p) + 8 * (20 - o) + (6 - 4) + (l.length - q) + 9) 9 [some (.ref 148)] [] G1 (zQ G1 l o ts r) := ih.2 4 o q ts T r G1 (by decide) ho m2 (by omega) ⟨hR.I hZ.1, hR.n hZ.2.1, hk1, hK1, h26⟩ m3 h2 (d + (q - p))
    rw [show d + (q - p) + 8 * (20 - o) + (6 - 4) + (l.length - q) + 9 = d + 8 * (20 - o) + (6 - 4) + (l.length - p) + 9 by omega] at k2
    exact mg_wp_mono k2 (fun ou q2 G2 w => zQ_t hR e6 e7 w)
theorem zFb4 (hW : aW A) (ih : zIH scr t A l n) (ho : o ≤ 20) (hp : p ≤ l.length) (hlen : ts.length ≤ 7 * o + 4) (hZ : zI G A l p o (ts ++ [T])) (hT : a_per (aV A) T) (h : zP A l (n + 1) 4 (some T) o p = some r) (d : Nat) : mg_wp (mg_KM scr t) mc_235 (d + 8 * (20 - o) + (6 - 4) + (l.length - p) + 9) 9 [some (.ref 148)] [] G (zQ G l o ts r) := by
  have h : (if k_is l p 38 = true then zB (zP A l n (4 + 1) none o (k_E l p)) (fun U q => if 4 = 1 then some (.inr (a_op (k_op 4) T U, q)) else zP A l n 4 (some (a_op (k_op 4) T U)) o q) else some (.inr (T, p))) = some r := h
  obtain ⟨hI, hN, hk, hK, h26⟩ := hZ
  have ks := r214 (scr := scr) (t := t) d hN hk hp (c := 38) (by decide)
  have eop : Int32.ofInt 0 = k_op 4 := by decide
  cases hs : k_is l p 38 with
  | false =>
    rw [hs, if_neg (by decide)] at h
    cases h
    rw [hs] at ks
    refine mg_go [9] 40 9 ms_235 ?_
    repeat (first | refine ⟨_, mg_Fs rfl rfl, ?_⟩ | refine ⟨Or.inl rfl, ?_⟩ | refine ⟨Or.inr ⟨_, rfl⟩, ?_⟩ | refine ⟨fun _ => ?_, fun h => absurd h (by decide)⟩ | refine ⟨fun h => absurd h (by decide), fun _ => ?_⟩)
    refine mg_cv (ks) (by omega) ?_
    exact ⟨fun _ => ⟨Or.inr rfl, rfl, rRf.rf G, rfl, hk, hK, h26, rfl, rfl⟩, fun q => absurd rfl q⟩
  | true =>
    rw [hs, if_pos rfl] at h
    rw [hs] at ks
    have hE := k_E_le hp
    have hlt := k_is_E hs
    have hS := k_S_ge l p
    rcases zB_s h with ⟨e, h1, rfl⟩ | ⟨U, q, h1, h2⟩
    · refine mg_go [9] 40 9 ms_235 ?_
      repeat (first | refine ⟨_, mg_Fs rfl rfl, ?_⟩ | refine ⟨Or.inl rfl, ?_⟩ | refine ⟨Or.inr ⟨_, rfl⟩, ?_⟩ | refine ⟨fun _ => ?_, fun h => absurd h (by decide)⟩ | refine ⟨fun h => absurd h (by decide), fun _ => ?_⟩)
      refine mg_cv (ks) (by omega) ?_
      refine ⟨fun q => absurd q (by decide), fun _ => ?_⟩
      repeat (first | refine ⟨_, mg_Fs rfl rfl, ?_⟩ | refine ⟨Or.inl rfl, ?_⟩ | refine ⟨Or.inr ⟨_, rfl⟩, ?_⟩ | refine ⟨fun _ => ?_, fun h => absurd h (by decide)⟩ | refine ⟨fun h => absurd h (by decide), fun _ => ?_⟩)
      refine mg_m_mono (r210 d hN hE hk.1) (by omega) ?_
      rintro ou q1 G1 ⟨rfl, rfl, hk1, hf1⟩
      have k1 : mg_m (mg_KM scr t) (d + 8 * (20 - o) + (6 - (4 + 1)) + (l.length - k_E l p) + 10) 241 [.ref 148] G1 (zQ G1 l o (ts ++ [T]) (.inl e)) := ih.1 (4 + 1) o (k_E l p) (ts ++ [T]) _ G1 (by omega) ho hE (by rw [List.length_append]; show ts.length + 1 ≤ _; omega) ⟨hf1.o.R.I hI, hf1.n hN, hk1, hf1.o.K hK, (hf1.2.2.2.2 148 26 (by decide)).trans h26⟩ h1 d
      repeat (first | refine ⟨_, mg_Fs rfl rfl, ?_⟩ | refine ⟨Or.inl rfl, ?_⟩ | refine ⟨Or.inr ⟨_, rfl⟩, ?_⟩ | refine ⟨fun _ => ?_, fun h => absurd h (by decide)⟩ | refine ⟨fun h => absurd h (by decide), fun _ => ?_⟩)
      refine mg_m_mono (k1) (by omega) ?_
      rintro ou q G2 w
      obtain ⟨rfl, rfl, w2⟩ := zQ_e (o' := o) (ts' := ts) hf1.o.R w
      exact ⟨fun q => absurd rfl q, fun _ => ⟨Or.inr rfl, w2⟩⟩
    · obtain ⟨m1, m2, m3, m4⟩ := zP_okn hW hE h1
      refine mg_go [9] 40 9 ms_235 ?_
      repeat (first | refine ⟨_, mg_Fs rfl rfl, ?_⟩ | refine ⟨Or.inl rfl, ?_⟩ | refine ⟨Or.inr ⟨_, rfl⟩, ?_⟩ | refine ⟨fun _ => ?_, fun h => absurd h (by decide)⟩ | refine ⟨fun h => absurd h (by decide), fun _ => ?_⟩)
      refine mg_cv (ks) (by omega) ?_
      refine ⟨fun q => absurd q (by decide), fun _ => ?_⟩
      repeat (first | refine ⟨_, mg_Fs rfl rfl, ?_⟩ | refine ⟨Or.inl rfl, ?_⟩ | refine ⟨Or.inr ⟨_, rfl⟩, ?_⟩ | refine ⟨fun _ => ?_, fun h => absurd h (by decide)⟩ | refine ⟨fun h => absurd h (by decide), fun _ => ?_⟩)
      refine mg_m_mono (r210 d hN hE hk.1) (by omega) ?_
      rintro ou q1 G1 ⟨rfl, rfl, hk1, hf1⟩
      have k1 : mg_m (mg_KM scr t) (d + 8 * (20 - o) + (6 - (4 + 1)) + (l.length - k_E l p) + 10) 241 [.ref 148] G1 (zQ G1 l o (ts ++ [T]) (.inr (U, q))) := ih.1 (4 + 1) o (k_E l p) (ts ++ [T]) _ G1 (by omega) ho hE (by rw [List.length_append]; show ts.length + 1 ≤ _; omega) ⟨hf1.o.R.I hI, hf1.n hN, hk1, hf1.o.K hK, (hf1.2.2.2.2 148 26 (by decide)).trans h26⟩ h1 d
      repeat (first | refine ⟨_, mg_Fs rfl rfl, ?_⟩ | refine ⟨Or.inl rfl, ?_⟩ | refine ⟨Or.inr ⟨_, rfl⟩, ?_⟩ | refine ⟨fun _ => ?_, fun h => absurd h (by decide)⟩ | refine ⟨fun h => absurd h (by decide), fun _ => ?_⟩)
      refine mg_m_mono (k1) (by omega) ?_
      rintro ou q' G2 ⟨rfl, hR, rfl, hk2, hK2, g26, e6, e7⟩
      have hK2 : rK G2 (ts ++ [T, U]) := by
        rw [List.append_assoc] at hK2
        exact hK2
      have kf := r227 (scr := scr) (t := t) d (k_op 4) hK2 (by omega)
      rw [← eop] at kf
      refine ⟨fun _ => ?_, fun q => absurd q (by decide)⟩
      repeat (first | refine ⟨_, mg_Fs rfl rfl, ?_⟩ | refine ⟨Or.inl rfl, ?_⟩ | refine ⟨Or.inr ⟨_, rfl⟩, ?_⟩ | refine ⟨fun _ => ?_, fun h => absurd h (by decide)⟩ | refine ⟨fun h => absurd h (by decide), fun _ => ?_⟩)
      refine mg_m_mono (kf) (by omega) ?_
      rintro ou q' G3 ⟨rfl, rfl, hX, hK3⟩
      have hRa := (hf1.o.R.tr hR).tr hX.R
      rw [if_neg (by decide)] at h2
      have k2 : mg_wp (mg_KM scr t) mc_235 (d + (q - p) + 8 * (20 - o) + (6 - 4) + (l.length - q) + 9) 9 [some (.ref 148)] [] G3 (zQ G3 l o ts r) := ih.2 4 o q ts (a_op (k_op 4) T U) r G3 (by decide) ho m2 hlen ⟨hRa.I hI, hRa.n hN, hX.k hk2, hK3, (hX.2.2.2 148 26 (by decide)).trans g26⟩ (a_per_op _ hT m3) h2 (d + (q - p))
      rw [show d + (q - p) + 8 * (20 - o) + (6 - 4) + (l.length - q) + 9 = d + 8 * (20 - o) + (6 - 4) + (l.length - p) + 9 by omega] at k2
      exact mg_wp_mono k2 (fun ou q2 G4 w => zQ_t hRa ((hX.2.2.2 148 6 (by decide)).trans (e6.trans (hf1.2.2.2.2 148 6 (by decide)))) ((hX.2.2.2 148 7 (by decide)).trans (e7.trans (hf1.2.2.2.2 148 7 (by decide)))) w)
end RM
