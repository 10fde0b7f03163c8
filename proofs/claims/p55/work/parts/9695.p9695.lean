theorem a_ring5 {nx len i : Nat} (hn : nx < 8) (hl : len ≤ 8) (h1 : 1 ≤ len) (hi : i < len - 1) : ((nx + 7) % 8 + 8 - (len - 1) + i) % 8 = (nx + 8 - len + i) % 8 := by omega
theorem a_ring6 {nx len : Nat} (hn : nx < 8) (hl : len ≤ 8) (h1 : 1 ≤ len) : (nx + 8 - len + (len - 1)) % 8 = (nx + 7) % 8 := by omega
section CG
variable {K : mg_K} {G : mg_G} {A : a_A} {s : Nat}
theorem c67 (d : Nat) (H : kS K s) (hS : cS G s A) (hW : aW A) {f : Nat} (hf : f < aF A) : mg_m K (d + 2) 67 [.ref s, .int (Int32.ofNat f)] G (fun o q G' => o = .inl none ∧ q = 0 ∧ cS G' s (remF A f) ∧ mg_fr (fun a => a = s ∨ a = s + 2 ∨ a = s + 3) G G') := by
  have h12 := hW.2.2.1
  have h3 := (a_wds_i (aV A) hW.2.1.2.2.2).1
  have h4 : a_wds (aV A) ≤ 4 := by omega
  obtain ⟨h1, h2, h3', hrow, hfn, hvn, hod, hco, hpe⟩ := id hS
  obtain ⟨n, hn⟩ : ∃ n, aF A = n + 1 := ⟨aF A - 1, by omega⟩
  have ne : ∀ (G2 : mg_G), mg_fr (fun a => a = s ∨ a = s + 2 ∨ a = s + 3) G G2 → G2.2.2.2.2 (s + 1) = G.2.2.2.2 (s + 1) := fun G2 h => (h (s + 1) (by omega)).2.2.2.2
  refine mg_me [12] 60 my_67 ms_67 (Nat.le_of_ble_eq_true rfl) ?_
  refine ⟨_, H.nf h2, rfl, _, H.1, rfl, ?_⟩
  refine mg_loop (aF A - 1 - f) (fun k L G' => L = [some (.ref s), some (.int (Int32.ofNat f)), some (.int (Int32.ofNat (f + k)))] ∧ mg_fr (fun a => a = s ∨ a = s + 2 ∨ a = s + 3) G G' ∧ G'.2.2.2.2 s 6 = .int (Int32.ofNat (aF A - 1)) ∧ G'.2.2.2.2 s 7 = .int (Int32.ofNat (aV A)) ∧ (∀ r, r < aF A → cRow G' (s + 2) r (a_wds (aV A)) (if f ≤ r ∧ r < f + k then aT A (r + 1) else aT A r)) ∧ (∀ r, r < aF A → G'.2.1 (s + 3) r = a_pk (if f ≤ r ∧ r < f + k then aFN A (r + 1) else aFN A r))) ?_ ?_ _ _ ⟨rfl, mg_fr.sF _ _ _ (Or.inl rfl), ?_, (mg_sF_ne _ _ (by omega)).trans h3', fun r hr => ?_, fun r hr => ?_⟩
  · rintro k L G' hk ⟨rfl, hF, e6, e7, hr', hn'⟩ ih
    have hw : G'.2.2.2.2 (s + 1) 1 = .int (Int32.ofNat (a_wds (aV A))) := by rw [ne G' hF]; exact h1
    refine mg_go [12] 60 12 ms_67 ?_
    refine ⟨_, H.nf e6, fun h => absurd h (mg_nle (by omega) (by omega)), fun _ => ?_⟩
    have k1 := c81 (K := K) d (f + k) (f + k + 1) (s + 1) (s + 2) 56 H.T H.T hw h4 (by omega) (by omega)
    rw [← mg_inc (f + k)] at k1
    refine ⟨_, H.t, _, H.t, Or.inr H.T.is, mg_cn k1 (by omega) ?_⟩
    have eqn : (cW G' (s + 2) (f + k) (a_wds (aV A)) (fun w => G'.2.1 (s + 2) (4 * (f + k + 1) + w))).2.1 (s + 3) = G'.2.1 (s + 3) := cW_ne _ _ _ _ _ _ (by omega)
    refine ⟨_, H.fn, _, H.fn, 12, _, f + k + 1, H.A3, mg_ixE (mg_inc _) (by omega), by omega, ?_⟩
    refine ⟨12, f + k, H.s3, mg_ixN (by omega), by omega, ih _ _ ⟨by rw [mg_inc]; rfl, (hF.tr (mg_fr.cW _ _ _ _ (Or.inr (Or.inl rfl)))).tr (mg_fr.sJ _ _ _ (Or.inr (Or.inr rfl))), e6, e7, fun r hr w hw2 => ?_, fun r hr => ?_⟩⟩
    · refine (congrFun (mg_u2_ne _ _ _ (show s + 2 ≠ s + 3 by omega)) _).trans ?_
      by_cases e : r = f + k
      · subst e
        rw [cW_in _ _ _ _ _ _ hw2, if_pos (by omega)]
        have := hr' (f + k + 1) (by omega) w hw2
        rwa [if_neg (by omega)] at this
      · rw [cW_at _ _ _ _ _ _ (by omega)]
        have := hr' r hr w hw2
        by_cases c : f ≤ r ∧ r < f + k
        · rw [if_pos c] at this
          rw [if_pos (by omega)]
          exact this
        · rw [if_neg c] at this
          rw [if_neg (by omega)]
          exact this
    · rw [eqn]
      refine (congrFun (mg_u2_same _ _ _ _) r).trans ?_
      rw [eqn]
      by_cases e : r = f + k
      · subst e
        rw [mg_u_eq, if_pos (by omega), hn' _ (by omega), if_neg (by omega)]
      · rw [mg_u_ne _ _ e, hn' r hr]
        by_cases c : f ≤ r ∧ r < f + k
        · rw [if_pos c, if_pos (by omega)]
        · rw [if_neg c, if_neg (by omega)]
  · rintro L G' ⟨rfl, hF, e6, e7, hr', hn'⟩
    rw [show f + (aF A - 1 - f) = aF A - 1 by omega] at hr' hn' ⊢
    refine mg_go [] 60 12 ms_67 ?_
    refine ⟨_, H.nf e6, fun _ => ⟨rfl, rfl, ⟨by rw [ne G' hF]; exact h1, e6, e7, fun r hr => ?_, fun r hr => ?_, fun v hv => by rw [(hF (s + 4) (by omega)).2.1]; exact hvn v hv, fun j hj => by rw [(hF (s + 5) (by omega)).1]; exact hod j hj, fun v hv => by rw [(hF (s + 6) (by omega)).1]; exact hco v hv, fun v hv => by rw [(hF (s + 7) (by omega)).1]; exact hpe v hv⟩, hF⟩, fun h => absurd h (Int32.not_lt.mpr (Int32.le_refl _))⟩
    · have hr : r < aF A - 1 := hr
      have := hr' r (by omega)
      show cRow G' (s + 2) r (a_wds (aV A)) (if f ≤ r then aT A (r + 1) else aT A r)
      by_cases c : f ≤ r
      · rw [if_pos ⟨c, hr⟩] at this
        rw [if_pos c]
        exact this
      · rw [if_neg (fun q => c q.1)] at this
        rw [if_neg c]
        exact this
    · have hr : r < aF A - 1 := hr
      have := hn' r (by omega)
      show G'.2.1 (s + 3) r = a_pk (if f ≤ r then aFN A (r + 1) else aFN A r)
      by_cases c : f ≤ r
      · rw [if_pos ⟨c, hr⟩] at this
        rw [if_pos c]
        exact this
      · rw [if_neg (fun q => c q.1)] at this
        rw [if_neg c]
        exact this
  · refine (mg_sF_at _ _ _ _).trans (congrArg Value.int ?_)
    show Int32.ofNat (aF A) - 1 = _
    rw [hn]
    exact mg_dec n
  · rw [if_neg (by omega)]
    exact hrow r hr
  · rw [if_neg (by omega)]
    exact hfn r hr
end CG
section KC
variable {scr : Nat × (Nat → Int32)} {t : List mg_S} {G : mg_G} {S : a_S} {A : a_A}
/-- a change ends with the drawing's size -/
theorem cSz (d : Nat) {G1 : mg_G} {ex : Int32 → String} (hT : cT G1 S) (hF : cFr148 G G1) : mg_m (mg_KC scr t) (d + 15) 165 [.ref 0] G1 (fun o q G' => o = .inl (some (.ref 122)) ∧ q = 0 ∧ cT G' S ∧ cFr148 G G' ∧ ∀ d', mg_m (mg_KC scr t) (d' + 1) 7 [.ref 122] G' (mg_v (.int (Int32.ofNat (aN (sA S)).length)) G')) := by
  refine mg_m_mono (c165 d hT) (Nat.le_refl _) ?_
  rintro o q G2 ⟨rfl, rfl, hT2, hD, hF2⟩
  exact ⟨rfl, rfl, hT2, hF.tr (fr0 hF2), fun d' => c7 d' kc_d1 (m := (aN (sA S)).length) hD.1.1⟩
theorem c142 (d : Nat) (hT : cT G S) (f : Int32) : mg_m (mg_KC scr t) (d + 20) 142 [.ref 0, .int f] G (cAp G (ex1 xI) (p314 S f)) := by
  unfold p314 cAp
  cases hf : vi f (aF (sA S)) with
  | none =>
    rw [pF_x hf]
    refine mg_me [] 60 my_142 ms_142 (Nat.le_of_ble_eq_true rfl) ?_
    repeat (first | refine ⟨_, mg_Fs rfl rfl, ?_⟩ | refine ⟨Or.inl rfl, ?_⟩ | refine ⟨Or.inr ⟨_, rfl⟩, ?_⟩ | refine ⟨fun _ => ?_, fun h => absurd h (by decide)⟩ | refine ⟨fun h => absurd h (by decide), fun _ => ?_⟩)
    refine mg_cx (c156x d hT hf) (by omega) ?_
    exact cA_x hT (by decide) rfl
  | some i =>
    obtain ⟨rfl, hi⟩ := vi_s hf
    rw [pF_y hf]
    refine mg_me [] 60 my_142 ms_142 (Nat.le_of_ble_eq_true rfl) ?_
    repeat (first | refine ⟨_, mg_Fs rfl rfl, ?_⟩ | refine ⟨Or.inl rfl, ?_⟩ | refine ⟨Or.inr ⟨_, rfl⟩, ?_⟩ | refine ⟨fun _ => ?_, fun h => absurd h (by decide)⟩ | refine ⟨fun h => absurd h (by decide), fun _ => ?_⟩)
    refine mg_cn (c156y d hT hf) (by omega) ?_
    repeat (first | refine ⟨_, mg_Fs rfl rfl, ?_⟩ | refine ⟨Or.inl rfl, ?_⟩ | refine ⟨Or.inr ⟨_, rfl⟩, ?_⟩ | refine ⟨fun _ => ?_, fun h => absurd h (by decide)⟩ | refine ⟨fun h => absurd h (by decide), fun _ => ?_⟩)
    refine mg_m_mono (cSz (G := G) (ex := ex1 xI) d hT (mg_fr.rf _ _)) (by omega) ?_
    rintro o q G1 ⟨rfl, rfl, hT1, hF1, hz⟩
    repeat (first | refine ⟨_, mg_Fs rfl rfl, ?_⟩ | refine ⟨Or.inl rfl, ?_⟩ | refine ⟨Or.inr ⟨_, rfl⟩, ?_⟩ | refine ⟨fun _ => ?_, fun h => absurd h (by decide)⟩ | refine ⟨fun h => absurd h (by decide), fun _ => ?_⟩)
    refine mg_cv (hz d) (by omega) ?_
    repeat (first | refine ⟨_, mg_Fs rfl rfl, ?_⟩ | refine ⟨Or.inl rfl, ?_⟩ | refine ⟨Or.inr ⟨_, rfl⟩, ?_⟩ | refine ⟨fun _ => ?_, fun h => absurd h (by decide)⟩ | refine ⟨fun h => absurd h (by decide), fun _ => ?_⟩)
    refine mg_m_mono (c163 d hT1) (by omega) ?_
    rintro o q G2 ⟨rfl, rfl, hT2, h0, hF2⟩
    repeat (first | refine ⟨_, mg_Fs rfl rfl, ?_⟩ | refine ⟨Or.inl rfl, ?_⟩ | refine ⟨Or.inr ⟨_, rfl⟩, ?_⟩ | refine ⟨fun _ => ?_, fun h => absurd h (by decide)⟩ | refine ⟨fun h => absurd h (by decide), fun _ => ?_⟩)
    refine mg_m_mono (c67 d kc_s1 hT2.1 hT2.2.1 hi) (by omega) ?_
    rintro o q G3 ⟨rfl, rfl, hS3, hF3⟩
    have hF3' : mg_fr kB G2 G3 := hF3.mono (fun a ha => by unfold kB kG kQ; omega)
    have hT3 := hT2.ch hF3' hS3 (remF_W hT2.2.1 i) (Or.inl (by rw [(hF3 0 (by decide)).2.2.2.2]; exact h0))
    repeat (first | refine ⟨_, mg_Fs rfl rfl, ?_⟩ | refine ⟨Or.inl rfl, ?_⟩ | refine ⟨Or.inr ⟨_, rfl⟩, ?_⟩ | refine ⟨fun _ => ?_, fun h => absurd h (by decide)⟩ | refine ⟨fun h => absurd h (by decide), fun _ => ?_⟩)
    refine mg_m_mono (cSz (G := G) (ex := ex1 xI) d hT3 ((hF1.tr hF2).tr (frB hF3'))) (by omega) ?_
    rintro o q G4 ⟨rfl, rfl, hT4, hF4, hz4⟩
    repeat (first | refine ⟨_, mg_Fs rfl rfl, ?_⟩ | refine ⟨Or.inl rfl, ?_⟩ | refine ⟨Or.inr ⟨_, rfl⟩, ?_⟩ | refine ⟨fun _ => ?_, fun h => absurd h (by decide)⟩ | refine ⟨fun h => absurd h (by decide), fun _ => ?_⟩)
    refine mg_cv (hz4 d) (by omega) ?_
    exact ⟨Or.inl rfl, cA_v hT4 hF4 rfl⟩
theorem mg_n_1 {n : Nat} (h : 1 ≤ n) : Int32.ofNat n - Int32.ofInt 1 = Int32.ofNat (n - 1) := by
  obtain ⟨m, rfl⟩ : ∃ m, n = m + 1 := ⟨n - 1, by omega⟩
  exact mg_dec m
/-- behind beginChange: the order becomes another one -/
theorem cT.ord (hT : cT G S) (h0 : G.2.2.2.2 0 7 = .int 0) {ord : Nat → Nat} (ho : aO ord (aV (sA S))) {f' : Nat → Int32} (hf : ∀ j, j < aV (sA S) → f' j = Int32.ofNat (ord j)) : cT (gM G 35 f') (setD (sA S) ord, S.2) ∧ cFr148 G (gM G 35 f') :=
  ⟨hT.ch (mg_fr.u1 _ _ (by unfold kB kG kQ; omega)) (cS_setD (s := 30) hT.1 hf) (setD_W hT.2.1 ho) (Or.inl h0), mg_fr.u1 _ _ (by decide)⟩
theorem c143 (d : Nat) (hT : cT G S) (l : Int32) : mg_m (mg_KC scr t) (d + 20) 143 [.ref 0, .int l] G (cAp G (ex1 xI) (p315 S l)) := by
  have h8 := hT.v8
  have h1 := hT.2.1.1
  unfold p315 cAp
  cases hl : vi l (aV (sA S)) with
  | none =>
    have hl2 : vi l (aV (sA S) - 1) = none := by
      unfold vi at hl ⊢
      split at hl
      · cases hl
      · rw [if_neg (by omega)]
    rw [hl2]
    refine mg_me [] 60 my_143 ms_143 (Nat.le_of_ble_eq_true rfl) ?_
    repeat (first | refine ⟨_, mg_Fs rfl rfl, ?_⟩ | refine ⟨Or.inl rfl, ?_⟩ | refine ⟨Or.inr ⟨_, rfl⟩, ?_⟩ | refine ⟨fun _ => ?_, fun h => absurd h (by decide)⟩ | refine ⟨fun h => absurd h (by decide), fun _ => ?_⟩)
    refine mg_cx (c158x d hT hl) (by omega) ?_
    exact cA_x hT (by decide) rfl
  | some i =>
    obtain ⟨rfl, hi⟩ := vi_s hl
    by_cases e : i = aV (sA S) - 1
    · have hl2 : vi (Int32.ofNat i) (aV (sA S) - 1) = none := by
        unfold vi
        rw [Int32.toInt_ofNat_of_lt (by omega), if_neg (by omega)]
      rw [hl2]
      refine mg_me [] 60 my_143 ms_143 (Nat.le_of_ble_eq_true rfl) ?_
      repeat (first | refine ⟨_, mg_Fs rfl rfl, ?_⟩ | refine ⟨Or.inl rfl, ?_⟩ | refine ⟨Or.inr ⟨_, rfl⟩, ?_⟩ | refine ⟨fun _ => ?_, fun h => absurd h (by decide)⟩ | refine ⟨fun h => absurd h (by decide), fun _ => ?_⟩)
      refine mg_cn (c158y d hT hl) (by omega) ?_
      refine ⟨_, mg_Fs rfl rfl, _, mg_Fe hT.1.2.2.1 rfl rfl, fun h => absurd ?_ h, fun _ => ⟨Nat.le_of_ble_eq_true rfl, cA_x hT (by decide) rfl⟩⟩
      show Int32.ofNat i = Int32.ofNat (aV (sA S)) - Int32.ofInt 1
      rw [mg_n_1 h1, e]
    · have hl2 : vi (Int32.ofNat i) (aV (sA S) - 1) = some i := vi_of (by omega) (by omega)
      rw [hl2]
      refine mg_me [] 60 my_143 ms_143 (Nat.le_of_ble_eq_true rfl) ?_
      repeat (first | refine ⟨_, mg_Fs rfl rfl, ?_⟩ | refine ⟨Or.inl rfl, ?_⟩ | refine ⟨Or.inr ⟨_, rfl⟩, ?_⟩ | refine ⟨fun _ => ?_, fun h => absurd h (by decide)⟩ | refine ⟨fun h => absurd h (by decide), fun _ => ?_⟩)
      refine mg_cn (c158y d hT hl) (by omega) ?_
      refine ⟨_, mg_Fs rfl rfl, _, mg_Fe hT.1.2.2.1 rfl rfl, fun _ => ?_, fun h => absurd h ?_⟩
      · repeat (first | refine ⟨_, mg_Fs rfl rfl, ?_⟩ | refine ⟨Or.inl rfl, ?_⟩ | refine ⟨Or.inr ⟨_, rfl⟩, ?_⟩ | refine ⟨fun _ => ?_, fun h => absurd h (by decide)⟩ | refine ⟨fun h => absurd h (by decide), fun _ => ?_⟩)
        refine mg_m_mono (c163 d hT) (by omega) ?_
        rintro o q G1 ⟨rfl, rfl, hT1, h0, hF1⟩
        have k1 := c173 (K := mg_KC scr t) (G := G1) (z := 35) (n := 8) d rfl (by decide) h8 (by decide) hT1.1.2.2.2.2.2.2.1 (show i < aV (sA S) from hi) (show i + 1 < aV (sA S) by omega)
        rw [← mg_inc i] at k1
        repeat (first | refine ⟨_, mg_Fs rfl rfl, ?_⟩ | refine ⟨Or.inl rfl, ?_⟩ | refine ⟨Or.inr ⟨_, rfl⟩, ?_⟩ | refine ⟨fun _ => ?_, fun h => absurd h (by decide)⟩ | refine ⟨fun h => absurd h (by decide), fun _ => ?_⟩)
        refine mg_m_mono (k1) (by omega) ?_
        rintro o q G2 ⟨rfl, rfl, f', rfl, hf'⟩
        obtain ⟨hT2, hF2⟩ := hT1.ord h0 (a_mv_O (show aO (aD (sA S)) (aV (sA S)) from hT.2.1.2.1) hi (show i + 1 < aV (sA S) by omega)) hf'
        repeat (first | refine ⟨_, mg_Fs rfl rfl, ?_⟩ | refine ⟨Or.inl rfl, ?_⟩ | refine ⟨Or.inr ⟨_, rfl⟩, ?_⟩ | refine ⟨fun _ => ?_, fun h => absurd h (by decide)⟩ | refine ⟨fun h => absurd h (by decide), fun _ => ?_⟩)
        refine mg_m_mono (cSz (G := G) (ex := ex1 xI) d hT2 (hF1.tr hF2)) (by omega) ?_
        rintro o q G3 ⟨rfl, rfl, hT3, hF3, hz⟩
        repeat (first | refine ⟨_, mg_Fs rfl rfl, ?_⟩ | refine ⟨Or.inl rfl, ?_⟩ | refine ⟨Or.inr ⟨_, rfl⟩, ?_⟩ | refine ⟨fun _ => ?_, fun h => absurd h (by decide)⟩ | refine ⟨fun h => absurd h (by decide), fun _ => ?_⟩)
        refine mg_cv (hz d) (by omega) ?_
        exact ⟨Or.inl rfl, cA_v hT3 hF3 rfl⟩
      · show ¬ Int32.ofNat i = Int32.ofNat (aV (sA S)) - Int32.ofInt 1
        rw [mg_n_1 h1]
        exact fun q => e ((mg_eqN (by omega) (by omega)).mp q)
theorem c144 (d : Nat) (hT : cT G S) (v l : Int32) : mg_m (mg_KC scr t) (d + 20) 144 [.ref 0, .int v, .int l] G (cAp G (ex1 xI) (p316 S v l)) := by
  have h8 := hT.v8
  unfold p316 cAp
  cases hv : vi v (aV (sA S)) with
  | none =>
    rw [pV_x hv]
    refine mg_me [] 60 my_144 ms_144 (Nat.le_of_ble_eq_true rfl) ?_
    repeat (first | refine ⟨_, mg_Fs rfl rfl, ?_⟩ | refine ⟨Or.inl rfl, ?_⟩ | refine ⟨Or.inr ⟨_, rfl⟩, ?_⟩ | refine ⟨fun _ => ?_, fun h => absurd h (by decide)⟩ | refine ⟨fun h => absurd h (by decide), fun _ => ?_⟩)
    refine mg_cx (c157x d hT hv) (by omega) ?_
    exact cA_x hT (by decide) rfl
  | some i =>
    obtain ⟨rfl, hi⟩ := vi_s hv
    rw [pV_y hv]
    cases hl : vi l (aV (sA S)) with
    | none =>
      rw [pV_x hl]
      refine mg_me [] 60 my_144 ms_144 (Nat.le_of_ble_eq_true rfl) ?_
      repeat (first | refine ⟨_, mg_Fs rfl rfl, ?_⟩ | refine ⟨Or.inl rfl, ?_⟩ | refine ⟨Or.inr ⟨_, rfl⟩, ?_⟩ | refine ⟨fun _ => ?_, fun h => absurd h (by decide)⟩ | refine ⟨fun h => absurd h (by decide), fun _ => ?_⟩)
      refine mg_cn (c157y d hT hv) (by omega) ?_
      repeat (first | refine ⟨_, mg_Fs rfl rfl, ?_⟩ | refine ⟨Or.inl rfl, ?_⟩ | refine ⟨Or.inr ⟨_, rfl⟩, ?_⟩ | refine ⟨fun _ => ?_, fun h => absurd h (by decide)⟩ | refine ⟨fun h => absurd h (by decide), fun _ => ?_⟩)
      refine mg_cx (c158x d hT hl) (by omega) ?_
      exact cA_x hT (by decide) rfl
    | some j =>
      obtain ⟨rfl, hj⟩ := vi_s hl
      rw [pV_y hl]
      refine mg_me [] 60 my_144 ms_144 (Nat.le_of_ble_eq_true rfl) ?_
      repeat (first | refine ⟨_, mg_Fs rfl rfl, ?_⟩ | refine ⟨Or.inl rfl, ?_⟩ | refine ⟨Or.inr ⟨_, rfl⟩, ?_⟩ | refine ⟨fun _ => ?_, fun h => absurd h (by decide)⟩ | refine ⟨fun h => absurd h (by decide), fun _ => ?_⟩)
      refine mg_cn (c157y d hT hv) (by omega) ?_
      repeat (first | refine ⟨_, mg_Fs rfl rfl, ?_⟩ | refine ⟨Or.inl rfl, ?_⟩ | refine ⟨Or.inr ⟨_, rfl⟩, ?_⟩ | refine ⟨fun _ => ?_, fun h => absurd h (by decide)⟩ | refine ⟨fun h => absurd h (by decide), fun _ => ?_⟩)
      refine mg_cn (c158y d hT hl) (by omega) ?_
      repeat (first | refine ⟨_, mg_Fs rfl rfl, ?_⟩ | refine ⟨Or.inl rfl, ?_⟩ | refine ⟨Or.inr ⟨_, rfl⟩, ?_⟩ | refine ⟨fun _ => ?_, fun h => absurd h (by decide)⟩ | refine ⟨fun h => absurd h (by decide), fun _ => ?_⟩)
      refine mg_m_mono (c163 d hT) (by omega) ?_
      rintro o q G1 ⟨rfl, rfl, hT1, h0, hF1⟩
      repeat (first | refine ⟨_, mg_Fs rfl rfl, ?_⟩ | refine ⟨Or.inl rfl, ?_⟩ | refine ⟨Or.inr ⟨_, rfl⟩, ?_⟩ | refine ⟨fun _ => ?_, fun h => absurd h (by decide)⟩ | refine ⟨fun h => absurd h (by decide), fun _ => ?_⟩)
      refine mg_cv (c70A d kc_s1 hT1.1 hT1.2.1 hi) (by omega) ?_
      repeat (first | refine ⟨_, mg_Fs rfl rfl, ?_⟩ | refine ⟨Or.inl rfl, ?_⟩ | refine ⟨Or.inr ⟨_, rfl⟩, ?_⟩ | refine ⟨fun _ => ?_, fun h => absurd h (by decide)⟩ | refine ⟨fun h => absurd h (by decide), fun _ => ?_⟩)
      refine mg_m_mono (c173 (K := mg_KC scr t) (G := G1) (z := 35) (n := 8) d rfl (by decide) h8 (by decide) hT1.1.2.2.2.2.2.2.1 (a_lvl_at hT.2.1 hi).1 hj) (by omega) ?_
      rintro o q G2 ⟨rfl, rfl, f', rfl, hf'⟩
      obtain ⟨hT2, hF2⟩ := hT1.ord h0 (a_mvO_O hT.2.1 hi hj) hf'
      repeat (first | refine ⟨_, mg_Fs rfl rfl, ?_⟩ | refine ⟨Or.inl rfl, ?_⟩ | refine ⟨Or.inr ⟨_, rfl⟩, ?_⟩ | refine ⟨fun _ => ?_, fun h => absurd h (by decide)⟩ | refine ⟨fun h => absurd h (by decide), fun _ => ?_⟩)
      refine mg_m_mono (cSz (G := G) (ex := ex1 xI) d hT2 (hF1.tr hF2)) (by omega) ?_
      rintro o q G3 ⟨rfl, rfl, hT3, hF3, hz⟩
      repeat (first | refine ⟨_, mg_Fs rfl rfl, ?_⟩ | refine ⟨Or.inl rfl, ?_⟩ | refine ⟨Or.inr ⟨_, rfl⟩, ?_⟩ | refine ⟨fun _ => ?_, fun h => absurd h (by decide)⟩ | refine ⟨fun h => absurd h (by decide), fun _ => ?_⟩)
      refine mg_cv (hz d) (by omega) ?_
      exact ⟨Or.inl rfl, cA_v hT3 hF3 rfl⟩
theorem c145 (d : Nat) (hT : cT G S) (v : Int32) : mg_m (mg_KC scr t) (d + 20) 145 [.ref 0, .int v] G (cAp G (ex1 xI) (p317 S v)) := by
  have h8 := hT.v8
  unfold p317 cAp
  cases hv : vi v (aV (sA S)) with
  | none =>
    rw [pV_x hv]
    refine mg_me [] 60 my_145 ms_145 (Nat.le_of_ble_eq_true rfl) ?_
    repeat (first | refine ⟨_, mg_Fs rfl rfl, ?_⟩ | refine ⟨Or.inl rfl, ?_⟩ | refine ⟨Or.inr ⟨_, rfl⟩, ?_⟩ | refine ⟨fun _ => ?_, fun h => absurd h (by decide)⟩ | refine ⟨fun h => absurd h (by decide), fun _ => ?_⟩)
    refine mg_cx (c157x d hT hv) (by omega) ?_
    exact cA_x hT (by decide) rfl
  | some i =>
    obtain ⟨rfl, hi⟩ := vi_s hv
    rw [pV_y hv]
    refine mg_me [] 60 my_145 ms_145 (Nat.le_of_ble_eq_true rfl) ?_
    repeat (first | refine ⟨_, mg_Fs rfl rfl, ?_⟩ | refine ⟨Or.inl rfl, ?_⟩ | refine ⟨Or.inr ⟨_, rfl⟩, ?_⟩ | refine ⟨fun _ => ?_, fun h => absurd h (by decide)⟩ | refine ⟨fun h => absurd h (by decide), fun _ => ?_⟩)
    refine mg_cn (c157y d hT hv) (by omega) ?_
    repeat (first | refine ⟨_, mg_Fs rfl rfl, ?_⟩ | refine ⟨Or.inl rfl, ?_⟩ | refine ⟨Or.inr ⟨_, rfl⟩, ?_⟩ | refine ⟨fun _ => ?_, fun h => absurd h (by decide)⟩ | refine ⟨fun h => absurd h (by decide), fun _ => ?_⟩)
    refine mg_m_mono (c163 d hT) (by omega) ?_
    rintro o q G1 ⟨rfl, rfl, hT1, h0, hF1⟩
    repeat (first | refine ⟨_, mg_Fs rfl rfl, ?_⟩ | refine ⟨Or.inl rfl, ?_⟩ | refine ⟨Or.inr ⟨_, rfl⟩, ?_⟩ | refine ⟨fun _ => ?_, fun h => absurd h (by decide)⟩ | refine ⟨fun h => absurd h (by decide), fun _ => ?_⟩)
    refine mg_cv (c70A d kc_s1 hT1.1 hT1.2.1 hi) (by omega) ?_
    have k60 : mg_m (mg_KC scr t) (d + 14) 60 [.ref 133, .ref 30, .int (Int32.ofNat i)] G1 (fun o q G' => q = 0 ∧ o = .inl (some (.int (Int32.ofNat (a_best (sA S) i)))) ∧ mg_fr (kG 134) G1 G') := mg_m_mono (c60 d kc_x2 kc_s1 (Or.inl (by decide)) hT1.1 hT1.2.1 hi) (by show d + aV (sA S) + 6 ≤ d + 14; omega) (fun _ _ _ h => h)
    repeat (first | refine ⟨_, mg_Fs rfl rfl, ?_⟩ | refine ⟨Or.inl rfl, ?_⟩ | refine ⟨Or.inr ⟨_, rfl⟩, ?_⟩ | refine ⟨fun _ => ?_, fun h => absurd h (by decide)⟩ | refine ⟨fun h => absurd h (by decide), fun _ => ?_⟩)
    refine mg_m_mono (k60) (by omega) ?_
    rintro o q G2 ⟨rfl, rfl, hF2⟩
    have hT2 : cT G2 (sA S, a_push (sU S) (sA S), S.2.2) := hT1.fr (hF2.mono (fun a ha => by unfold kG at ha; unfold kN; omega)) (hT1.2.2.2.2.2.2.2.fr hF2 (by unfold kG; omega) (fun a ha => by unfold kG at *; omega))
    have h02 : G2.2.2.2.2 0 7 = .int 0 := by rw [(hF2 0 (by unfold kG; omega)).2.2.2.2]; exact h0
    repeat (first | refine ⟨_, mg_Fs rfl rfl, ?_⟩ | refine ⟨Or.inl rfl, ?_⟩ | refine ⟨Or.inr ⟨_, rfl⟩, ?_⟩ | refine ⟨fun _ => ?_, fun h => absurd h (by decide)⟩ | refine ⟨fun h => absurd h (by decide), fun _ => ?_⟩)
    refine mg_m_mono (c173 (K := mg_KC scr t) (G := G2) (z := 35) (n := 8) d rfl (by decide) h8 (by decide) hT2.1.2.2.2.2.2.2.1 (a_lvl_at hT.2.1 hi).1 (a_best_lt hT.2.1 hi)) (by omega) ?_
    rintro o q G3 ⟨rfl, rfl, f', rfl, hf'⟩
    obtain ⟨hT3, hF3⟩ := hT2.ord h02 (a_mvO_O hT.2.1 hi (a_best_lt hT.2.1 hi)) hf'
    repeat (first | refine ⟨_, mg_Fs rfl rfl, ?_⟩ | refine ⟨Or.inl rfl, ?_⟩ | refine ⟨Or.inr ⟨_, rfl⟩, ?_⟩ | refine ⟨fun _ => ?_, fun h => absurd h (by decide)⟩ | refine ⟨fun h => absurd h (by decide), fun _ => ?_⟩)
    refine mg_m_mono (cSz (G := G) (ex := ex1 xI) d hT3 ((hF1.tr (hF2.mono (fun a ha => by unfold kG at ha; show a < 148; omega))).tr hF3)) (by omega) ?_
    rintro o q G4 ⟨rfl, rfl, hT4, hF4, hz⟩
    repeat (first | refine ⟨_, mg_Fs rfl rfl, ?_⟩ | refine ⟨Or.inl rfl, ?_⟩ | refine ⟨Or.inr ⟨_, rfl⟩, ?_⟩ | refine ⟨fun _ => ?_, fun h => absurd h (by decide)⟩ | refine ⟨fun h => absurd h (by decide), fun _ => ?_⟩)
    refine mg_cv (hz d) (by omega) ?_
    exact ⟨Or.inl rfl, cA_v hT4 hF4 rfl⟩
theorem c146 (d : Nat) (hT : cT G S) : mg_m (mg_KC scr t) (d + 20) 146 [.ref 0] G (cAp G (ex1 xI) (p318 S)) := by
  have h8 := hT.v8
  unfold p318 cAp
  refine mg_me [] 60 my_146 ms_146 (Nat.le_of_ble_eq_true rfl) ?_
  repeat (first | refine ⟨_, mg_Fs rfl rfl, ?_⟩ | refine ⟨Or.inl rfl, ?_⟩ | refine ⟨Or.inr ⟨_, rfl⟩, ?_⟩ | refine ⟨fun _ => ?_, fun h => absurd h (by decide)⟩ | refine ⟨fun h => absurd h (by decide), fun _ => ?_⟩)
  refine mg_m_mono (c163 d hT) (by omega) ?_
  rintro o q G1 ⟨rfl, rfl, hT1, h0, hF1⟩
  have k61 : mg_m (mg_KC scr t) (d + 15) 61 [.ref 133, .ref 30] G1 (fun o q G' => q = 0 ∧ o = .inl none ∧ cS G' 30 (a_sfa (sA S)) ∧ mg_fr (kY 30 134 145) G1 G') := mg_m_mono (c61 d kc_x2 kc_s1 (Or.inl (by decide)) ⟨by unfold kQ; omega, by unfold kG; omega⟩ hT1.1 hT1.2.1) (by show d + aV (sA S) + 7 ≤ d + 15; omega) (fun _ _ _ h => h)
  repeat (first | refine ⟨_, mg_Fs rfl rfl, ?_⟩ | refine ⟨Or.inl rfl, ?_⟩ | refine ⟨Or.inr ⟨_, rfl⟩, ?_⟩ | refine ⟨fun _ => ?_, fun h => absurd h (by decide)⟩ | refine ⟨fun h => absurd h (by decide), fun _ => ?_⟩)
  refine mg_m_mono (k61) (by omega) ?_
  rintro o q G2 ⟨rfl, rfl, hS2, hF2⟩
  have hF2' : mg_fr kB G1 G2 := hF2.mono (fun a ha => by unfold kY kG at ha; unfold kB kG kQ; omega)
  have hT2 := hT1.ch hF2' hS2 (a_sfs_W hT.2.1 _ _) (Or.inl (by rw [(hF2 0 (by unfold kY kG; omega)).2.2.2.2]; exact h0))
  repeat (first | refine ⟨_, mg_Fs rfl rfl, ?_⟩ | refine ⟨Or.inl rfl, ?_⟩ | refine ⟨Or.inr ⟨_, rfl⟩, ?_⟩ | refine ⟨fun _ => ?_, fun h => absurd h (by decide)⟩ | refine ⟨fun h => absurd h (by decide), fun _ => ?_⟩)
  refine mg_m_mono (cSz (G := G) (ex := ex1 xI) d hT2 (hF1.tr (frB hF2'))) (by omega) ?_
  rintro o q G3 ⟨rfl, rfl, hT3, hF3, hz⟩
  repeat (first | refine ⟨_, mg_Fs rfl rfl, ?_⟩ | refine ⟨Or.inl rfl, ?_⟩ | refine ⟨Or.inr ⟨_, rfl⟩, ?_⟩ | refine ⟨fun _ => ?_, fun h => absurd h (by decide)⟩ | refine ⟨fun h => absurd h (by decide), fun _ => ?_⟩)
  refine mg_cv (hz d) (by omega) ?_
  exact ⟨Or.inl rfl, cA_v hT3 hF3 rfl⟩
/-- the state is taken over from place p; no drawing stands -/
theorem c164 (d : Nat) {p : Nat} (Hp : kS (mg_KC scr t) p) (hp : 38 ≤ p ∨ p + 8 ≤ 30) {B : a_A} (hB : cS G p B) (hW : aW B) : mg_m (mg_KC scr t) (d + 2) 164 [.ref 0, .ref p] G (fun o q G' => o = .inl none ∧ q = 0 ∧ cS G' 30 B ∧ G'.2.2.2.2 0 7 = .int 0 ∧ mg_fr (fun a => a = 0 ∨ kQ 30 a) G G') := by
  refine mg_me [] 60 my_164 ms_164 (Nat.le_of_ble_eq_true rfl) ?_
  repeat (first | refine ⟨_, mg_Fs rfl rfl, ?_⟩ | refine ⟨Or.inl rfl, ?_⟩ | refine ⟨Or.inr ⟨_, rfl⟩, ?_⟩ | refine ⟨fun _ => ?_, fun h => absurd h (by decide)⟩ | refine ⟨fun h => absurd h (by decide), fun _ => ?_⟩)
  refine mg_m_mono (c64A d kc_s1 Hp (by omega) hB hW) (by omega) ?_
  rintro o q G1 ⟨rfl, rfl, hS1, hF1⟩
  exact ⟨rfl, _, rfl, rfl, rfl, rfl, hS1.fr (mg_fr.sF (p := fun a => a = 0) _ _ _ rfl) (fun a ha e => by unfold kQ at ha; omega), mg_sF_at _ _ _ _, (hF1.mono (fun a ha => Or.inr ha)).tr (mg_fr.sF _ _ _ (Or.inl rfl))⟩
end KC
