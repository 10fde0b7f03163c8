/-! REFERENCE: choices, simple formulas -/
theorem zQ_v {G G' : mg_G} {l : List Nat} {o : Nat} {ts : List a_T} {r : zEr ⊕ (a_T × Nat)} {ou : Option Value ⊕ String} {q : Nat} (w : zQ G l o ts r ou q G') : q = 0 ∧ ∃ b : Bool, ou = .inl (some (.int (b2 b))) ∧ zQ G l o ts r (.inl (some (.int (b2 b)))) 0 G' := by
  cases r with
  | inl e =>
    obtain ⟨rfl, w2, rfl, w4⟩ := w
    exact ⟨rfl, false, rfl, rfl, w2, rfl, w4⟩
  | inr x =>
    obtain ⟨rfl, w2, rfl, w4⟩ := w
    exact ⟨rfl, true, rfl, rfl, w2, rfl, w4⟩
section RM
variable {scr : Nat × (Nat → Int32)} {t : List mg_S} {A : a_A} {l : List Nat} {n o p : Nat} {ts : List a_T} {r : zEr ⊕ (a_T × Nat)} {G G0 : mg_G}
theorem r239 (hW : aW A) (ih : zIH scr t A l n) (ho : o ≤ 20) (hp : p ≤ l.length) (hlen : ts.length ≤ 7 * o + 5) (hZ : zI G A l p o ts) (h0 : k_S l p < k_E l p) (h : (if k_is l (k_E l p) 40 = true then (if o = 20 then zErr 5 l (k_E l p) else
          zB (zP A l n 0 none (o + 1) (k_E l (k_E l p))) (fun c q => if k_is l q 44 = true then zB (zP A l n 0 none (o + 1) (k_E l q)) (fun x q => if k_is l q 44 = true then zB (zP A l n 0 none (o + 1) (k_E l q)) (fun y q => if k_is l q 41 = true then some (.inr (a_sel c x y, k_E l q)) else zErr 1 l q) else zErr 1 l q) else zErr 1 l q))
        else zErr 1 l (k_E l p)) = some r) (d : Nat) : mg_m (mg_KM scr t) (d + 8 * (20 - o) + (l.length - p) + 10) 239 [.ref 148] G (zQ G l o ts r) := by
  have hE := k_E_le hp
  have hEE := k_E_le hE
  have hS := k_S_ge l p
  obtain ⟨hI, hN, hk, hK, h26⟩ := id hZ
  have stC : ∀ (G1 : mg_G) (q : Nat) (c x y : a_T), q ≤ l.length → zS G G1 l q (o + 1) (ts ++ [c] ++ [x] ++ [y]) → (if k_is l q 41 = true then some (.inr (a_sel c x y, k_E l q)) else zErr 1 l q) = some r → mg_wp (mg_KM scr t) mc_239 (d + 8 * (20 - o) + (l.length - p) + 9) 50 [some (.ref 148)] [] G1 (zQ G l o ts r) := fun G1 q c x y hq hS1 g => by
    have hN1 := hS1.1.n hN
    cases hs : k_is l q 41 with
    | false =>
      rw [hs, if_neg (by decide)] at g
      cases g
      refine mg_go [] 40 50 ms_239 ?_
      repeat (first | refine ⟨_, mg_Fs rfl rfl, ?_⟩ | refine ⟨Or.inl rfl, ?_⟩ | refine ⟨Or.inr ⟨_, rfl⟩, ?_⟩ | refine ⟨fun _ => ?_, fun h => absurd h (by decide)⟩ | refine ⟨fun h => absurd h (by decide), fun _ => ?_⟩)
      refine mg_cv (r237x d hN1 hS1.2.1 hq hs) (by omega) ?_
      exact ⟨fun q => absurd rfl q, fun _ => ⟨Or.inr rfl, zQ_x hS1.1⟩⟩
    | true =>
      rw [hs, if_pos rfl] at g
      cases g
      refine mg_go [] 40 50 ms_239 ?_
      repeat (first | refine ⟨_, mg_Fs rfl rfl, ?_⟩ | refine ⟨Or.inl rfl, ?_⟩ | refine ⟨Or.inr ⟨_, rfl⟩, ?_⟩ | refine ⟨fun _ => ?_, fun h => absurd h (by decide)⟩ | refine ⟨fun h => absurd h (by decide), fun _ => ?_⟩)
      refine mg_m_mono (r237y d hN1 hS1.2.1 hq hs hS1.2.2.2.1) (by omega) ?_
      rintro ou q' G2 ⟨rfl, rfl, hk2, h262, hf2⟩
      have hS2 := hS1.o hk2 h262 hf2
      have hK2 : rK G2 (ts ++ [c, x, y]) := by
        have := hS2.2.2.1
        rw [List.append_assoc, List.append_assoc] at this
        exact this
      refine ⟨fun _ => ?_, fun q => absurd q (by decide)⟩
      repeat (first | refine ⟨_, mg_Fs rfl rfl, ?_⟩ | refine ⟨Or.inl rfl, ?_⟩ | refine ⟨Or.inr ⟨_, rfl⟩, ?_⟩ | refine ⟨fun _ => ?_, fun h => absurd h (by decide)⟩ | refine ⟨fun h => absurd h (by decide), fun _ => ?_⟩)
      refine mg_m_mono (r228 d hK2 (by omega)) (by omega) ?_
      rintro ou q' G3 ⟨rfl, rfl, hX, hK3⟩
      exact ⟨Or.inr rfl, (hS2.X hX hK3).Q⟩
  by_cases h20 : o = 20
  · have k0 : ∀ G1 : mg_G, zS G G1 l (k_E l p) o ts → mg_wp (mg_KM scr t) mc_239 (d + 8 * (20 - o) + (l.length - p) + 9) 4 [some (.ref 148)] [] G1 (zQ G l o ts r) := fun G1 hS1 => by
      have hN1 := hS1.1.n hN
      cases hs : k_is l (k_E l p) 40 with
      | false =>
        rw [hs, if_neg (by decide)] at h
        cases h
        refine mg_go [] 40 4 ms_239 ?_
        repeat (first | refine ⟨_, mg_Fs rfl rfl, ?_⟩ | refine ⟨Or.inl rfl, ?_⟩ | refine ⟨Or.inr ⟨_, rfl⟩, ?_⟩ | refine ⟨fun _ => ?_, fun h => absurd h (by decide)⟩ | refine ⟨fun h => absurd h (by decide), fun _ => ?_⟩)
        refine mg_cv (r236a d hN1 hS1.2.1 hE hs) (by omega) ?_
        exact ⟨fun _ => ⟨Or.inr rfl, zQ_x hS1.1⟩, fun q => absurd rfl q⟩
      | true =>
        rw [hs, if_pos rfl, if_pos h20] at h
        cases h
        refine mg_go [] 40 4 ms_239 ?_
        repeat (first | refine ⟨_, mg_Fs rfl rfl, ?_⟩ | refine ⟨Or.inl rfl, ?_⟩ | refine ⟨Or.inr ⟨_, rfl⟩, ?_⟩ | refine ⟨fun _ => ?_, fun h => absurd h (by decide)⟩ | refine ⟨fun h => absurd h (by decide), fun _ => ?_⟩)
        refine mg_cv (r236b d hN1 hS1.2.1 hE hs (by rw [← h20]; exact hS1.2.2.2.1)) (by omega) ?_
        exact ⟨fun _ => ⟨Or.inr rfl, zQ_x hS1.1⟩, fun q => absurd rfl q⟩
    refine mg_me [4] 40 my_239 ms_239 (Nat.le_of_ble_eq_true rfl) ?_
    repeat (first | refine ⟨_, mg_Fs rfl rfl, ?_⟩ | refine ⟨Or.inl rfl, ?_⟩ | refine ⟨Or.inr ⟨_, rfl⟩, ?_⟩ | refine ⟨fun _ => ?_, fun h => absurd h (by decide)⟩ | refine ⟨fun h => absurd h (by decide), fun _ => ?_⟩)
    refine mg_m_mono (r210 d hN hE hk.1) (by omega) ?_
    rintro ou q G1 ⟨rfl, rfl, hk1, hf1⟩
    exact k0 G1 (hZ.S.f hk1 hf1)
  have stF : ∀ (G1 : mg_G) (q : Nat) (us : List a_T) (r' : zEr ⊕ (a_T × Nat)), q ≤ l.length → p < q → us.length ≤ ts.length + 2 → zS G G1 l q (o + 1) us → zP A l n 0 none (o + 1) q = some r' → mg_m (mg_KM scr t) (d + 8 * (20 - (o + 1)) + (6 - 0) + (l.length - q) + 10) 231 [.ref 148] G1 (zQ G1 l (o + 1) us r') := fun G1 q us r' hq hpq hus hS1 g => ih.1 0 (o + 1) q us r' G1 (by decide) (by omega) hq (by omega) (hS1.I hI hN) g d
  have stB : ∀ (G1 : mg_G) (q : Nat) (c x : a_T), q ≤ l.length → p < q → zS G G1 l q (o + 1) (ts ++ [c] ++ [x]) → (if k_is l q 44 = true then zB (zP A l n 0 none (o + 1) (k_E l q)) (fun y q => if k_is l q 41 = true then some (.inr (a_sel c x y, k_E l q)) else zErr 1 l q) else zErr 1 l q) = some r → mg_wp (mg_KM scr t) mc_239 (d + 8 * (20 - o) + (l.length - p) + 9) 34 [some (.ref 148)] [] G1 (zQ G l o ts r) := fun G1 q c x hq hpq hS1 g => by
    have hN1 := hS1.1.n hN
    have hqE := k_E_le hq
    have hq1 := k_S_ge l q
    have hq2 := k_E_ge l q
    have hl2 : (ts ++ [c] ++ [x]).length ≤ ts.length + 2 := by simp
    cases hs : k_is l q 44 with
    | false =>
      rw [hs, if_neg (by decide)] at g
      cases g
      refine mg_go [50] 40 34 ms_239 ?_
      repeat (first | refine ⟨_, mg_Fs rfl rfl, ?_⟩ | refine ⟨Or.inl rfl, ?_⟩ | refine ⟨Or.inr ⟨_, rfl⟩, ?_⟩ | refine ⟨fun _ => ?_, fun h => absurd h (by decide)⟩ | refine ⟨fun h => absurd h (by decide), fun _ => ?_⟩)
      refine mg_cv (r215x d hN1 hS1.2.1 hq (c := 44) (by decide) hs) (by omega) ?_
      exact ⟨fun _ => ⟨Or.inr rfl, zQ_x hS1.1⟩, fun q => absurd rfl q⟩
    | true =>
      rw [hs, if_pos rfl] at g
      refine mg_go [50] 40 34 ms_239 ?_
      repeat (first | refine ⟨_, mg_Fs rfl rfl, ?_⟩ | refine ⟨Or.inl rfl, ?_⟩ | refine ⟨Or.inr ⟨_, rfl⟩, ?_⟩ | refine ⟨fun _ => ?_, fun h => absurd h (by decide)⟩ | refine ⟨fun h => absurd h (by decide), fun _ => ?_⟩)
      refine mg_m_mono (r215y d hN1 hS1.2.1 hq (c := 44) (by decide) hs) (by omega) ?_
      rintro ou q' G2 ⟨rfl, rfl, hk2, hf2⟩
      have hS2 := hS1.f hk2 hf2
      refine ⟨fun q => absurd q (by decide), fun _ => ?_⟩
      rcases zB_s g with ⟨e, g1, rfl⟩ | ⟨y, q3, g1, g2⟩
      · repeat (first | refine ⟨_, mg_Fs rfl rfl, ?_⟩ | refine ⟨Or.inl rfl, ?_⟩ | refine ⟨Or.inr ⟨_, rfl⟩, ?_⟩ | refine ⟨fun _ => ?_, fun h => absurd h (by decide)⟩ | refine ⟨fun h => absurd h (by decide), fun _ => ?_⟩)
        refine mg_m_mono (stF G2 (k_E l q) _ _ hqE (by omega) hl2 hS2 g1) (by omega) ?_
        rintro ou q' G3 w
        obtain ⟨rfl, rfl, w2⟩ := zQ_e (o' := o) (ts' := ts) hS2.1 w
        exact ⟨fun _ => ⟨Or.inr rfl, w2⟩, fun q => absurd rfl q⟩
      · obtain ⟨m1, m2, -⟩ := zP_okn hW hqE g1
        repeat (first | refine ⟨_, mg_Fs rfl rfl, ?_⟩ | refine ⟨Or.inl rfl, ?_⟩ | refine ⟨Or.inr ⟨_, rfl⟩, ?_⟩ | refine ⟨fun _ => ?_, fun h => absurd h (by decide)⟩ | refine ⟨fun h => absurd h (by decide), fun _ => ?_⟩)
        refine mg_m_mono (stF G2 (k_E l q) _ _ hqE (by omega) hl2 hS2 g1) (by omega) ?_
        rintro ou q' G3 w
        obtain ⟨rfl, rfl, hS3⟩ := hS2.q w
        exact ⟨fun q => absurd q (by decide), fun _ => stC G3 q3 c x y m2 hS3 g2⟩
  have stA : ∀ (G1 : mg_G) (q : Nat) (c : a_T), q ≤ l.length → p < q → zS G G1 l q (o + 1) (ts ++ [c]) → (if k_is l q 44 = true then zB (zP A l n 0 none (o + 1) (k_E l q)) (fun x q => if k_is l q 44 = true then zB (zP A l n 0 none (o + 1) (k_E l q)) (fun y q => if k_is l q 41 = true then some (.inr (a_sel c x y, k_E l q)) else zErr 1 l q) else zErr 1 l q) else zErr 1 l q) = some r → mg_wp (mg_KM scr t) mc_239 (d + 8 * (20 - o) + (l.length - p) + 9) 18 [some (.ref 148)] [] G1 (zQ G l o ts r) := fun G1 q c hq hpq hS1 g => by
    have hN1 := hS1.1.n hN
    have hqE := k_E_le hq
    have hq1 := k_S_ge l q
    have hq2 := k_E_ge l q
    have hl2 : (ts ++ [c]).length ≤ ts.length + 2 := by simp
    cases hs : k_is l q 44 with
    | false =>
      rw [hs, if_neg (by decide)] at g
      cases g
      refine mg_go [34] 40 18 ms_239 ?_
      repeat (first | refine ⟨_, mg_Fs rfl rfl, ?_⟩ | refine ⟨Or.inl rfl, ?_⟩ | refine ⟨Or.inr ⟨_, rfl⟩, ?_⟩ | refine ⟨fun _ => ?_, fun h => absurd h (by decide)⟩ | refine ⟨fun h => absurd h (by decide), fun _ => ?_⟩)
      refine mg_cv (r215x d hN1 hS1.2.1 hq (c := 44) (by decide) hs) (by omega) ?_
      exact ⟨fun _ => ⟨Or.inr rfl, zQ_x hS1.1⟩, fun q => absurd rfl q⟩
    | true =>
      rw [hs, if_pos rfl] at g
      refine mg_go [34] 40 18 ms_239 ?_
      repeat (first | refine ⟨_, mg_Fs rfl rfl, ?_⟩ | refine ⟨Or.inl rfl, ?_⟩ | refine ⟨Or.inr ⟨_, rfl⟩, ?_⟩ | refine ⟨fun _ => ?_, fun h => absurd h (by decide)⟩ | refine ⟨fun h => absurd h (by decide), fun _ => ?_⟩)
      refine mg_m_mono (r215y d hN1 hS1.2.1 hq (c := 44) (by decide) hs) (by omega) ?_
      rintro ou q' G2 ⟨rfl, rfl, hk2, hf2⟩
      have hS2 := hS1.f hk2 hf2
      refine ⟨fun q => absurd q (by decide), fun _ => ?_⟩
      rcases zB_s g with ⟨e, g1, rfl⟩ | ⟨x, q3, g1, g2⟩
      · repeat (first | refine ⟨_, mg_Fs rfl rfl, ?_⟩ | refine ⟨Or.inl rfl, ?_⟩ | refine ⟨Or.inr ⟨_, rfl⟩, ?_⟩ | refine ⟨fun _ => ?_, fun h => absurd h (by decide)⟩ | refine ⟨fun h => absurd h (by decide), fun _ => ?_⟩)
        refine mg_m_mono (stF G2 (k_E l q) _ _ hqE (by omega) hl2 hS2 g1) (by omega) ?_
        rintro ou q' G3 w
        obtain ⟨rfl, rfl, w2⟩ := zQ_e (o' := o) (ts' := ts) hS2.1 w
        exact ⟨fun _ => ⟨Or.inr rfl, w2⟩, fun q => absurd rfl q⟩
      · obtain ⟨m1, m2, -⟩ := zP_okn hW hqE g1
        repeat (first | refine ⟨_, mg_Fs rfl rfl, ?_⟩ | refine ⟨Or.inl rfl, ?_⟩ | refine ⟨Or.inr ⟨_, rfl⟩, ?_⟩ | refine ⟨fun _ => ?_, fun h => absurd h (by decide)⟩ | refine ⟨fun h => absurd h (by decide), fun _ => ?_⟩)
        refine mg_m_mono (stF G2 (k_E l q) _ _ hqE (by omega) hl2 hS2 g1) (by omega) ?_
        rintro ou q' G3 w
        obtain ⟨rfl, rfl, hS3⟩ := hS2.q w
        exact ⟨fun q => absurd q (by decide), fun _ => stB G3 q3 c x m2 (by omega) hS3 g2⟩
  have st4 : ∀ G1 : mg_G, zS G G1 l (k_E l p) o ts → mg_wp (mg_KM scr t) mc_239 (d + 8 * (20 - o) + (l.length - p) + 9) 4 [some (.ref 148)] [] G1 (zQ G l o ts r) := fun G1 hS1 => by
    have hN1 := hS1.1.n hN
    have hq1 := k_S_ge l (k_E l p)
    have hq2 := k_E_ge l (k_E l p)
    cases hs : k_is l (k_E l p) 40 with
    | false =>
      rw [hs, if_neg (by decide)] at h
      cases h
      refine mg_go [18] 40 4 ms_239 ?_
      repeat (first | refine ⟨_, mg_Fs rfl rfl, ?_⟩ | refine ⟨Or.inl rfl, ?_⟩ | refine ⟨Or.inr ⟨_, rfl⟩, ?_⟩ | refine ⟨fun _ => ?_, fun h => absurd h (by decide)⟩ | refine ⟨fun h => absurd h (by decide), fun _ => ?_⟩)
      refine mg_cv (r236a d hN1 hS1.2.1 hE hs) (by omega) ?_
      exact ⟨fun _ => ⟨Or.inr rfl, zQ_x hS1.1⟩, fun q => absurd rfl q⟩
    | true =>
      rw [hs, if_pos rfl, if_neg h20] at h
      refine mg_go [18] 40 4 ms_239 ?_
      repeat (first | refine ⟨_, mg_Fs rfl rfl, ?_⟩ | refine ⟨Or.inl rfl, ?_⟩ | refine ⟨Or.inr ⟨_, rfl⟩, ?_⟩ | refine ⟨fun _ => ?_, fun h => absurd h (by decide)⟩ | refine ⟨fun h => absurd h (by decide), fun _ => ?_⟩)
      refine mg_m_mono (r236c d hN1 hS1.2.1 hE hs (by omega) hS1.2.2.2.1) (by omega) ?_
      rintro ou q' G2 ⟨rfl, rfl, hk2, h262, hf2⟩
      have hS2 := hS1.o hk2 h262 hf2
      refine ⟨fun q => absurd q (by decide), fun _ => ?_⟩
      rcases zB_s h with ⟨e, g1, rfl⟩ | ⟨c, q3, g1, g2⟩
      · repeat (first | refine ⟨_, mg_Fs rfl rfl, ?_⟩ | refine ⟨Or.inl rfl, ?_⟩ | refine ⟨Or.inr ⟨_, rfl⟩, ?_⟩ | refine ⟨fun _ => ?_, fun h => absurd h (by decide)⟩ | refine ⟨fun h => absurd h (by decide), fun _ => ?_⟩)
        refine mg_m_mono (stF G2 (k_E l (k_E l p)) _ _ hEE (by omega) (by omega) hS2 g1) (by omega) ?_
        rintro ou q' G3 w
        obtain ⟨rfl, rfl, w2⟩ := zQ_e (o' := o) (ts' := ts) hS2.1 w
        exact ⟨fun _ => ⟨Or.inr rfl, w2⟩, fun q => absurd rfl q⟩
      · obtain ⟨m1, m2, -⟩ := zP_okn hW hEE g1
        repeat (first | refine ⟨_, mg_Fs rfl rfl, ?_⟩ | refine ⟨Or.inl rfl, ?_⟩ | refine ⟨Or.inr ⟨_, rfl⟩, ?_⟩ | refine ⟨fun _ => ?_, fun h => absurd h (by decide)⟩ | refine ⟨fun h => absurd h (by decide), fun _ => ?_⟩)
        refine mg_m_mono (stF G2 (k_E l (k_E l p)) _ _ hEE (by omega) (by omega) hS2 g1) (by omega) ?_
        rintro ou q' G3 w
        obtain ⟨rfl, rfl, hS3⟩ := hS2.q w
        exact ⟨fun q => absurd q (by decide), fun _ => stA G3 q3 c m2 (by omega) hS3 g2⟩
  refine mg_me [4] 40 my_239 ms_239 (Nat.le_of_ble_eq_true rfl) ?_
  repeat (first | refine ⟨_, mg_Fs rfl rfl, ?_⟩ | refine ⟨Or.inl rfl, ?_⟩ | refine ⟨Or.inr ⟨_, rfl⟩, ?_⟩ | refine ⟨fun _ => ?_, fun h => absurd h (by decide)⟩ | refine ⟨fun h => absurd h (by decide), fun _ => ?_⟩)
  refine mg_m_mono (r210 d hN hE hk.1) (by omega) ?_
  rintro ou q G1 ⟨rfl, rfl, hk1, hf1⟩
  exact st4 G1 (hZ.S.f hk1 hf1)
end RM
