abbrev cAp (G : mg_G) (ex : Int32 → String) (p : a_S × qR) : mg_Q := cA G ex p.1 p.2
theorem cT.rowF {G : mg_G} {S : a_S} (h : cT G S) {r n : Nat} {g : Nat → Int64} (hr : aF (sA S) ≤ r) : cT (cW G 32 r n g) S := by
  obtain ⟨h1, h2, h3, h4, h5, h6, h7, h8⟩ := h
  have hf : mg_fr (fun a => a = 32) G (cW G 32 r n g) := mg_fr.cW _ _ _ _ rfl
  exact ⟨h1.wf h2 hr, h2, h3.fr hf (fun a ha => by omega), h4.fr hf (fun a ha => by omega), h5.fr hf (by decide) (by decide), h6, h7.fr hf (by decide) (by decide), h8.fr hf (by decide) (fun a ha => by unfold kG at ha; omega)⟩
section KC
variable {scr : Nat × (Nat → Int32)} {t : List mg_S} {G : mg_G} {S : a_S} {A : a_A}
theorem cAddW (d : Nat) {G1 : mg_G} (hT : cT G1 (sA S, a_push (sU S) (sA S), S.2.2)) (h0 : G1.2.2.2.2 0 7 = .int 0) (hF : cFr148 G G1) (h11 : aF (sA S) < 12) {T : a_T} {g : Nat → Int64} (hg : ∀ w, w < a_wds (aV (sA S)) → g w = a_wd T w) (hp : a_per (aV (sA S)) T) : mg_m (mg_KC scr t) (d + 1) 66 [.ref 30, .long 0] (cW G1 32 (aF (sA S)) (a_wds (aV (sA S))) g) (fun o q G' => o = .inl (some (.int (Int32.ofNat (aF (sA S))))) ∧ q = 0 ∧ cT G' (sAdd S T) ∧ cFr148 G G') :=
  cAdd (S := S) d (hT.rowF (Nat.le_refl _)) h0 (hF.tr (mg_fr.cW _ _ _ _ (by decide))) h11 (cW_row hg) hp
theorem c136 (d : Nat) (hT : cT G S) (op f g : Int32) : mg_m (mg_KC scr t) (d + 20) 136 [.ref 0, .int op, .int f, .int g] G (cAp G (ex3 xI xA xS) (p307 S op f g)) := by
  have h8 := hT.v8
  have h4 := hT.w4
  have h3 := hT.w3
  have hper := hT.2.1.2.2.2.1
  unfold p307 cAp
  cases hf : vi f (aF (sA S)) with
  | none =>
    rw [pF_x hf]
    refine mg_me [] 60 my_136 ms_136 (Nat.le_of_ble_eq_true rfl) ?_
    repeat (first | refine ⟨_, mg_Fs rfl rfl, ?_⟩ | refine ⟨Or.inl rfl, ?_⟩ | refine ⟨Or.inr ⟨_, rfl⟩, ?_⟩ | refine ⟨fun _ => ?_, fun h => absurd h (by decide)⟩ | refine ⟨fun h => absurd h (by decide), fun _ => ?_⟩)
    refine mg_cx (c156x d hT hf) (by omega) ?_
    exact cA_x hT (by decide) rfl
  | some jf =>
    obtain ⟨rfl, kf⟩ := vi_s hf
    rw [pF_y hf]
    cases hg : vi g (aF (sA S)) with
    | none =>
      rw [pF_x hg]
      refine mg_me [] 60 my_136 ms_136 (Nat.le_of_ble_eq_true rfl) ?_
      repeat (first | refine ⟨_, mg_Fs rfl rfl, ?_⟩ | refine ⟨Or.inl rfl, ?_⟩ | refine ⟨Or.inr ⟨_, rfl⟩, ?_⟩ | refine ⟨fun _ => ?_, fun h => absurd h (by decide)⟩ | refine ⟨fun h => absurd h (by decide), fun _ => ?_⟩)
      refine mg_cn (c156y d hT hf) (by omega) ?_
      repeat (first | refine ⟨_, mg_Fs rfl rfl, ?_⟩ | refine ⟨Or.inl rfl, ?_⟩ | refine ⟨Or.inr ⟨_, rfl⟩, ?_⟩ | refine ⟨fun _ => ?_, fun h => absurd h (by decide)⟩ | refine ⟨fun h => absurd h (by decide), fun _ => ?_⟩)
      refine mg_cx (c156x d hT hg) (by omega) ?_
      exact cA_x hT (by decide) rfl
    | some jg =>
      obtain ⟨rfl, kg⟩ := vi_s hg
      rw [pF_y hg]
      cases hop : vi op (6) with
      | none =>
        refine mg_me [] 60 my_136 ms_136 (Nat.le_of_ble_eq_true rfl) ?_
        repeat (first | refine ⟨_, mg_Fs rfl rfl, ?_⟩ | refine ⟨Or.inl rfl, ?_⟩ | refine ⟨Or.inr ⟨_, rfl⟩, ?_⟩ | refine ⟨fun _ => ?_, fun h => absurd h (by decide)⟩ | refine ⟨fun h => absurd h (by decide), fun _ => ?_⟩)
        refine mg_cn (c156y d hT hf) (by omega) ?_
        repeat (first | refine ⟨_, mg_Fs rfl rfl, ?_⟩ | refine ⟨Or.inl rfl, ?_⟩ | refine ⟨Or.inr ⟨_, rfl⟩, ?_⟩ | refine ⟨fun _ => ?_, fun h => absurd h (by decide)⟩ | refine ⟨fun h => absurd h (by decide), fun _ => ?_⟩)
        refine mg_cn (c156y d hT hg) (by omega) ?_
        repeat (first | refine ⟨_, mg_Fs rfl rfl, ?_⟩ | refine ⟨Or.inl rfl, ?_⟩ | refine ⟨Or.inr ⟨_, rfl⟩, ?_⟩ | refine ⟨fun _ => ?_, fun h => absurd h (by decide)⟩ | refine ⟨fun h => absurd h (by decide), fun _ => ?_⟩)
        refine mg_cx (c161x d hop) (by omega) ?_
        exact cA_x hT (by decide) rfl
      | some jop =>
        by_cases h12 : aF (sA S) = 12
        · rw [show pNew3 S _ = (S, (3, 0)) from if_pos h12]
          refine mg_me [] 60 my_136 ms_136 (Nat.le_of_ble_eq_true rfl) ?_
          repeat (first | refine ⟨_, mg_Fs rfl rfl, ?_⟩ | refine ⟨Or.inl rfl, ?_⟩ | refine ⟨Or.inr ⟨_, rfl⟩, ?_⟩ | refine ⟨fun _ => ?_, fun h => absurd h (by decide)⟩ | refine ⟨fun h => absurd h (by decide), fun _ => ?_⟩)
          refine mg_cn (c156y d hT hf) (by omega) ?_
          repeat (first | refine ⟨_, mg_Fs rfl rfl, ?_⟩ | refine ⟨Or.inl rfl, ?_⟩ | refine ⟨Or.inr ⟨_, rfl⟩, ?_⟩ | refine ⟨fun _ => ?_, fun h => absurd h (by decide)⟩ | refine ⟨fun h => absurd h (by decide), fun _ => ?_⟩)
          refine mg_cn (c156y d hT hg) (by omega) ?_
          repeat (first | refine ⟨_, mg_Fs rfl rfl, ?_⟩ | refine ⟨Or.inl rfl, ?_⟩ | refine ⟨Or.inr ⟨_, rfl⟩, ?_⟩ | refine ⟨fun _ => ?_, fun h => absurd h (by decide)⟩ | refine ⟨fun h => absurd h (by decide), fun _ => ?_⟩)
          refine mg_cn (c161y d hop) (by omega) ?_
          repeat (first | refine ⟨_, mg_Fs rfl rfl, ?_⟩ | refine ⟨Or.inl rfl, ?_⟩ | refine ⟨Or.inr ⟨_, rfl⟩, ?_⟩ | refine ⟨fun _ => ?_, fun h => absurd h (by decide)⟩ | refine ⟨fun h => absurd h (by decide), fun _ => ?_⟩)
          refine mg_cx (c162x d hT h12) (by omega) ?_
          exact cA_x hT (by decide) rfl
        · rw [show pNew3 S _ = (sAdd S _, (0, Int32.ofNat (aF (sA S)))) from if_neg h12]
          have h11 : aF (sA S) < 12 := by have := hT.f12; omega
          refine mg_me [] 90 my_136 ms_136 (Nat.le_of_ble_eq_true rfl) ?_
          repeat (first | refine ⟨_, mg_Fs rfl rfl, ?_⟩ | refine ⟨Or.inl rfl, ?_⟩ | refine ⟨Or.inr ⟨_, rfl⟩, ?_⟩ | refine ⟨fun _ => ?_, fun h => absurd h (by decide)⟩ | refine ⟨fun h => absurd h (by decide), fun _ => ?_⟩)
          refine mg_cn (c156y d hT hf) (by omega) ?_
          repeat (first | refine ⟨_, mg_Fs rfl rfl, ?_⟩ | refine ⟨Or.inl rfl, ?_⟩ | refine ⟨Or.inr ⟨_, rfl⟩, ?_⟩ | refine ⟨fun _ => ?_, fun h => absurd h (by decide)⟩ | refine ⟨fun h => absurd h (by decide), fun _ => ?_⟩)
          refine mg_cn (c156y d hT hg) (by omega) ?_
          repeat (first | refine ⟨_, mg_Fs rfl rfl, ?_⟩ | refine ⟨Or.inl rfl, ?_⟩ | refine ⟨Or.inr ⟨_, rfl⟩, ?_⟩ | refine ⟨fun _ => ?_, fun h => absurd h (by decide)⟩ | refine ⟨fun h => absurd h (by decide), fun _ => ?_⟩)
          refine mg_cn (c161y d hop) (by omega) ?_
          repeat (first | refine ⟨_, mg_Fs rfl rfl, ?_⟩ | refine ⟨Or.inl rfl, ?_⟩ | refine ⟨Or.inr ⟨_, rfl⟩, ?_⟩ | refine ⟨fun _ => ?_, fun h => absurd h (by decide)⟩ | refine ⟨fun h => absurd h (by decide), fun _ => ?_⟩)
          refine mg_cn (c162y d hT h11) (by omega) ?_
          repeat (first | refine ⟨_, mg_Fs rfl rfl, ?_⟩ | refine ⟨Or.inl rfl, ?_⟩ | refine ⟨Or.inr ⟨_, rfl⟩, ?_⟩ | refine ⟨fun _ => ?_, fun h => absurd h (by decide)⟩ | refine ⟨fun h => absurd h (by decide), fun _ => ?_⟩)
          refine mg_m_mono (c163 d hT) (by omega) ?_
          rintro o q G1 ⟨rfl, rfl, hT1, h0, hF1⟩
          have e6 : G1.2.2.2.2 30 6 = .int (Int32.ofNat (aF (sA S))) := hT1.1.2.1
          have w1 : G1.2.2.2.2 31 1 = .int (Int32.ofNat (a_wds (aV (sA S)))) := hT1.1.1
          refine ⟨_, mg_Fs rfl rfl, _, mg_Fs rfl rfl, _, mg_Fs rfl rfl, _, mg_Fe e6 rfl rfl, ?_⟩
          repeat (first | refine ⟨_, mg_Fs rfl rfl, ?_⟩ | refine ⟨Or.inl rfl, ?_⟩ | refine ⟨Or.inr ⟨_, rfl⟩, ?_⟩ | refine ⟨fun _ => ?_, fun h => absurd h (by decide)⟩ | refine ⟨fun h => absurd h (by decide), fun _ => ?_⟩)
          refine mg_cn (c82 d (aF (sA S)) jf jg kc_s1.T op w1 h4 (by omega) (by omega) (by omega)) (by omega) ?_
          repeat (first | refine ⟨_, mg_Fs rfl rfl, ?_⟩ | refine ⟨Or.inl rfl, ?_⟩ | refine ⟨Or.inr ⟨_, rfl⟩, ?_⟩ | refine ⟨fun _ => ?_, fun h => absurd h (by decide)⟩ | refine ⟨fun h => absurd h (by decide), fun _ => ?_⟩)
          refine mg_m_mono (cAddW (T := a_op op (aT (sA S) jf) (aT (sA S) jg)) d hT1 h0 hF1 h11 (fun w hw => by
            show a_comb op (G1.2.1 32 (4 * jf + w)) (G1.2.1 32 (4 * jg + w)) = a_wd (a_tb4 _) w
            rw [a_wd4 _ w (by omega), show G1.2.1 32 (4 * jf + w) = a_wd (aT (sA S) jf) w from hT1.rw (S := (sA S, a_push (sU S) (sA S), S.2.2)) kf w hw, show G1.2.1 32 (4 * jg + w) = a_wd (aT (sA S) jg) w from hT1.rw (S := (sA S, a_push (sU S) (sA S), S.2.2)) kg w hw]) (a_per_op op (hper jf kf) (hper jg kg))) (by omega) ?_
          rintro o q G2 ⟨rfl, rfl, hT2, hF2⟩
          exact ⟨Or.inl rfl, cA_v hT2 hF2 rfl⟩
theorem c137 (d : Nat) (hT : cT G S) (f g h : Int32) : mg_m (mg_KC scr t) (d + 20) 137 [.ref 0, .int f, .int g, .int h] G (cAp G (ex2 xI xS) (p308 S f g h)) := by
  have h8 := hT.v8
  have h4 := hT.w4
  have h3 := hT.w3
  have hper := hT.2.1.2.2.2.1
  unfold p308 cAp
  cases hf : vi f (aF (sA S)) with
  | none =>
    rw [pF_x hf]
    refine mg_me [] 60 my_137 ms_137 (Nat.le_of_ble_eq_true rfl) ?_
    repeat (first | refine ⟨_, mg_Fs rfl rfl, ?_⟩ | refine ⟨Or.inl rfl, ?_⟩ | refine ⟨Or.inr ⟨_, rfl⟩, ?_⟩ | refine ⟨fun _ => ?_, fun h => absurd h (by decide)⟩ | refine ⟨fun h => absurd h (by decide), fun _ => ?_⟩)
    refine mg_cx (c156x d hT hf) (by omega) ?_
    exact cA_x hT (by decide) rfl
  | some jf =>
    obtain ⟨rfl, kf⟩ := vi_s hf
    rw [pF_y hf]
    cases hg : vi g (aF (sA S)) with
    | none =>
      rw [pF_x hg]
      refine mg_me [] 60 my_137 ms_137 (Nat.le_of_ble_eq_true rfl) ?_
      repeat (first | refine ⟨_, mg_Fs rfl rfl, ?_⟩ | refine ⟨Or.inl rfl, ?_⟩ | refine ⟨Or.inr ⟨_, rfl⟩, ?_⟩ | refine ⟨fun _ => ?_, fun h => absurd h (by decide)⟩ | refine ⟨fun h => absurd h (by decide), fun _ => ?_⟩)
      refine mg_cn (c156y d hT hf) (by omega) ?_
      repeat (first | refine ⟨_, mg_Fs rfl rfl, ?_⟩ | refine ⟨Or.inl rfl, ?_⟩ | refine ⟨Or.inr ⟨_, rfl⟩, ?_⟩ | refine ⟨fun _ => ?_, fun h => absurd h (by decide)⟩ | refine ⟨fun h => absurd h (by decide), fun _ => ?_⟩)
      refine mg_cx (c156x d hT hg) (by omega) ?_
      exact cA_x hT (by decide) rfl
    | some jg =>
      obtain ⟨rfl, kg⟩ := vi_s hg
      rw [pF_y hg]
      cases hh : vi h (aF (sA S)) with
      | none =>
        rw [pF_x hh]
        refine mg_me [] 60 my_137 ms_137 (Nat.le_of_ble_eq_true rfl) ?_
        repeat (first | refine ⟨_, mg_Fs rfl rfl, ?_⟩ | refine ⟨Or.inl rfl, ?_⟩ | refine ⟨Or.inr ⟨_, rfl⟩, ?_⟩ | refine ⟨fun _ => ?_, fun h => absurd h (by decide)⟩ | refine ⟨fun h => absurd h (by decide), fun _ => ?_⟩)
        refine mg_cn (c156y d hT hf) (by omega) ?_
        repeat (first | refine ⟨_, mg_Fs rfl rfl, ?_⟩ | refine ⟨Or.inl rfl, ?_⟩ | refine ⟨Or.inr ⟨_, rfl⟩, ?_⟩ | refine ⟨fun _ => ?_, fun h => absurd h (by decide)⟩ | refine ⟨fun h => absurd h (by decide), fun _ => ?_⟩)
        refine mg_cn (c156y d hT hg) (by omega) ?_
        repeat (first | refine ⟨_, mg_Fs rfl rfl, ?_⟩ | refine ⟨Or.inl rfl, ?_⟩ | refine ⟨Or.inr ⟨_, rfl⟩, ?_⟩ | refine ⟨fun _ => ?_, fun h => absurd h (by decide)⟩ | refine ⟨fun h => absurd h (by decide), fun _ => ?_⟩)
        refine mg_cx (c156x d hT hh) (by omega) ?_
        exact cA_x hT (by decide) rfl
      | some jh =>
        obtain ⟨rfl, kh⟩ := vi_s hh
        rw [pF_y hh]
        by_cases h12 : aF (sA S) = 12
        · rw [show pNew S _ = (S, (2, 0)) from if_pos h12]
          refine mg_me [] 60 my_137 ms_137 (Nat.le_of_ble_eq_true rfl) ?_
          repeat (first | refine ⟨_, mg_Fs rfl rfl, ?_⟩ | refine ⟨Or.inl rfl, ?_⟩ | refine ⟨Or.inr ⟨_, rfl⟩, ?_⟩ | refine ⟨fun _ => ?_, fun h => absurd h (by decide)⟩ | refine ⟨fun h => absurd h (by decide), fun _ => ?_⟩)
          refine mg_cn (c156y d hT hf) (by omega) ?_
          repeat (first | refine ⟨_, mg_Fs rfl rfl, ?_⟩ | refine ⟨Or.inl rfl, ?_⟩ | refine ⟨Or.inr ⟨_, rfl⟩, ?_⟩ | refine ⟨fun _ => ?_, fun h => absurd h (by decide)⟩ | refine ⟨fun h => absurd h (by decide), fun _ => ?_⟩)
          refine mg_cn (c156y d hT hg) (by omega) ?_
          repeat (first | refine ⟨_, mg_Fs rfl rfl, ?_⟩ | refine ⟨Or.inl rfl, ?_⟩ | refine ⟨Or.inr ⟨_, rfl⟩, ?_⟩ | refine ⟨fun _ => ?_, fun h => absurd h (by decide)⟩ | refine ⟨fun h => absurd h (by decide), fun _ => ?_⟩)
          refine mg_cn (c156y d hT hh) (by omega) ?_
          repeat (first | refine ⟨_, mg_Fs rfl rfl, ?_⟩ | refine ⟨Or.inl rfl, ?_⟩ | refine ⟨Or.inr ⟨_, rfl⟩, ?_⟩ | refine ⟨fun _ => ?_, fun h => absurd h (by decide)⟩ | refine ⟨fun h => absurd h (by decide), fun _ => ?_⟩)
          refine mg_cx (c162x d hT h12) (by omega) ?_
          exact cA_x hT (by decide) rfl
        · rw [show pNew S _ = (sAdd S _, (0, Int32.ofNat (aF (sA S)))) from if_neg h12]
          have h11 : aF (sA S) < 12 := by have := hT.f12; omega
          refine mg_me [] 90 my_137 ms_137 (Nat.le_of_ble_eq_true rfl) ?_
          repeat (first | refine ⟨_, mg_Fs rfl rfl, ?_⟩ | refine ⟨Or.inl rfl, ?_⟩ | refine ⟨Or.inr ⟨_, rfl⟩, ?_⟩ | refine ⟨fun _ => ?_, fun h => absurd h (by decide)⟩ | refine ⟨fun h => absurd h (by decide), fun _ => ?_⟩)
          refine mg_cn (c156y d hT hf) (by omega) ?_
          repeat (first | refine ⟨_, mg_Fs rfl rfl, ?_⟩ | refine ⟨Or.inl rfl, ?_⟩ | refine ⟨Or.inr ⟨_, rfl⟩, ?_⟩ | refine ⟨fun _ => ?_, fun h => absurd h (by decide)⟩ | refine ⟨fun h => absurd h (by decide), fun _ => ?_⟩)
          refine mg_cn (c156y d hT hg) (by omega) ?_
          repeat (first | refine ⟨_, mg_Fs rfl rfl, ?_⟩ | refine ⟨Or.inl rfl, ?_⟩ | refine ⟨Or.inr ⟨_, rfl⟩, ?_⟩ | refine ⟨fun _ => ?_, fun h => absurd h (by decide)⟩ | refine ⟨fun h => absurd h (by decide), fun _ => ?_⟩)
          refine mg_cn (c156y d hT hh) (by omega) ?_
          repeat (first | refine ⟨_, mg_Fs rfl rfl, ?_⟩ | refine ⟨Or.inl rfl, ?_⟩ | refine ⟨Or.inr ⟨_, rfl⟩, ?_⟩ | refine ⟨fun _ => ?_, fun h => absurd h (by decide)⟩ | refine ⟨fun h => absurd h (by decide), fun _ => ?_⟩)
          refine mg_cn (c162y d hT h11) (by omega) ?_
          repeat (first | refine ⟨_, mg_Fs rfl rfl, ?_⟩ | refine ⟨Or.inl rfl, ?_⟩ | refine ⟨Or.inr ⟨_, rfl⟩, ?_⟩ | refine ⟨fun _ => ?_, fun h => absurd h (by decide)⟩ | refine ⟨fun h => absurd h (by decide), fun _ => ?_⟩)
          refine mg_m_mono (c163 d hT) (by omega) ?_
          rintro o q G1 ⟨rfl, rfl, hT1, h0, hF1⟩
          have e6 : G1.2.2.2.2 30 6 = .int (Int32.ofNat (aF (sA S))) := hT1.1.2.1
          have w1 : G1.2.2.2.2 31 1 = .int (Int32.ofNat (a_wds (aV (sA S)))) := hT1.1.1
          refine ⟨_, mg_Fs rfl rfl, _, mg_Fs rfl rfl, _, mg_Fs rfl rfl, _, mg_Fe e6 rfl rfl, ?_⟩
          repeat (first | refine ⟨_, mg_Fs rfl rfl, ?_⟩ | refine ⟨Or.inl rfl, ?_⟩ | refine ⟨Or.inr ⟨_, rfl⟩, ?_⟩ | refine ⟨fun _ => ?_, fun h => absurd h (by decide)⟩ | refine ⟨fun h => absurd h (by decide), fun _ => ?_⟩)
          refine mg_cn (c85 d (aF (sA S)) jf jg jh kc_s1.T w1 h4 (by omega) (by omega) (by omega) (by omega)) (by omega) ?_
          repeat (first | refine ⟨_, mg_Fs rfl rfl, ?_⟩ | refine ⟨Or.inl rfl, ?_⟩ | refine ⟨Or.inr ⟨_, rfl⟩, ?_⟩ | refine ⟨fun _ => ?_, fun h => absurd h (by decide)⟩ | refine ⟨fun h => absurd h (by decide), fun _ => ?_⟩)
          refine mg_m_mono (cAddW (T := a_sel (aT (sA S) jf) (aT (sA S) jg) (aT (sA S) jh)) d hT1 h0 hF1 h11 (fun w hw => by
            show (G1.2.1 32 (4 * jf + w) &&& G1.2.1 32 (4 * jg + w)) ||| ((G1.2.1 32 (4 * jf + w) ^^^ (-1 : Int64)) &&& G1.2.1 32 (4 * jh + w)) = a_wd (a_tb4 _) w
            rw [a_wd4 _ w (by omega), show G1.2.1 32 (4 * jf + w) = a_wd (aT (sA S) jf) w from hT1.rw (S := (sA S, a_push (sU S) (sA S), S.2.2)) kf w hw, show G1.2.1 32 (4 * jg + w) = a_wd (aT (sA S) jg) w from hT1.rw (S := (sA S, a_push (sU S) (sA S), S.2.2)) kg w hw, show G1.2.1 32 (4 * jh + w) = a_wd (aT (sA S) jh) w from hT1.rw (S := (sA S, a_push (sU S) (sA S), S.2.2)) kh w hw]) (a_per_sel (hper jf kf) (hper jg kg) (hper jh kh))) (by omega) ?_
          rintro o q G2 ⟨rfl, rfl, hT2, hF2⟩
          exact ⟨Or.inl rfl, cA_v hT2 hF2 rfl⟩
theorem c138 (d : Nat) (hT : cT G S) (f : Int32) : mg_m (mg_KC scr t) (d + 20) 138 [.ref 0, .int f] G (cAp G (ex2 xI xS) (p309 S f)) := by
  have h8 := hT.v8
  have h4 := hT.w4
  have h3 := hT.w3
  have hper := hT.2.1.2.2.2.1
  unfold p309 cAp
  cases hf : vi f (aF (sA S)) with
  | none =>
    rw [pF_x hf]
    refine mg_me [] 60 my_138 ms_138 (Nat.le_of_ble_eq_true rfl) ?_
    repeat (first | refine ⟨_, mg_Fs rfl rfl, ?_⟩ | refine ⟨Or.inl rfl, ?_⟩ | refine ⟨Or.inr ⟨_, rfl⟩, ?_⟩ | refine ⟨fun _ => ?_, fun h => absurd h (by decide)⟩ | refine ⟨fun h => absurd h (by decide), fun _ => ?_⟩)
    refine mg_cx (c156x d hT hf) (by omega) ?_
    exact cA_x hT (by decide) rfl
  | some jf =>
    obtain ⟨rfl, kf⟩ := vi_s hf
    rw [pF_y hf]
    by_cases h12 : aF (sA S) = 12
    · rw [show pNew S _ = (S, (2, 0)) from if_pos h12]
      refine mg_me [] 60 my_138 ms_138 (Nat.le_of_ble_eq_true rfl) ?_
      repeat (first | refine ⟨_, mg_Fs rfl rfl, ?_⟩ | refine ⟨Or.inl rfl, ?_⟩ | refine ⟨Or.inr ⟨_, rfl⟩, ?_⟩ | refine ⟨fun _ => ?_, fun h => absurd h (by decide)⟩ | refine ⟨fun h => absurd h (by decide), fun _ => ?_⟩)
      refine mg_cn (c156y d hT hf) (by omega) ?_
      repeat (first | refine ⟨_, mg_Fs rfl rfl, ?_⟩ | refine ⟨Or.inl rfl, ?_⟩ | refine ⟨Or.inr ⟨_, rfl⟩, ?_⟩ | refine ⟨fun _ => ?_, fun h => absurd h (by decide)⟩ | refine ⟨fun h => absurd h (by decide), fun _ => ?_⟩)
      refine mg_cx (c162x d hT h12) (by omega) ?_
      exact cA_x hT (by decide) rfl
    · rw [show pNew S _ = (sAdd S _, (0, Int32.ofNat (aF (sA S)))) from if_neg h12]
      have h11 : aF (sA S) < 12 := by have := hT.f12; omega
      refine mg_me [] 90 my_138 ms_138 (Nat.le_of_ble_eq_true rfl) ?_
      repeat (first | refine ⟨_, mg_Fs rfl rfl, ?_⟩ | refine ⟨Or.inl rfl, ?_⟩ | refine ⟨Or.inr ⟨_, rfl⟩, ?_⟩ | refine ⟨fun _ => ?_, fun h => absurd h (by decide)⟩ | refine ⟨fun h => absurd h (by decide), fun _ => ?_⟩)
      refine mg_cn (c156y d hT hf) (by omega) ?_
      repeat (first | refine ⟨_, mg_Fs rfl rfl, ?_⟩ | refine ⟨Or.inl rfl, ?_⟩ | refine ⟨Or.inr ⟨_, rfl⟩, ?_⟩ | refine ⟨fun _ => ?_, fun h => absurd h (by decide)⟩ | refine ⟨fun h => absurd h (by decide), fun _ => ?_⟩)
      refine mg_cn (c162y d hT h11) (by omega) ?_
      repeat (first | refine ⟨_, mg_Fs rfl rfl, ?_⟩ | refine ⟨Or.inl rfl, ?_⟩ | refine ⟨Or.inr ⟨_, rfl⟩, ?_⟩ | refine ⟨fun _ => ?_, fun h => absurd h (by decide)⟩ | refine ⟨fun h => absurd h (by decide), fun _ => ?_⟩)
      refine mg_m_mono (c163 d hT) (by omega) ?_
      rintro o q G1 ⟨rfl, rfl, hT1, h0, hF1⟩
      have e6 : G1.2.2.2.2 30 6 = .int (Int32.ofNat (aF (sA S))) := hT1.1.2.1
      have w1 : G1.2.2.2.2 31 1 = .int (Int32.ofNat (a_wds (aV (sA S)))) := hT1.1.1
      refine ⟨_, mg_Fs rfl rfl, _, mg_Fs rfl rfl, _, mg_Fs rfl rfl, _, mg_Fe e6 rfl rfl, ?_⟩
      repeat (first | refine ⟨_, mg_Fs rfl rfl, ?_⟩ | refine ⟨Or.inl rfl, ?_⟩ | refine ⟨Or.inr ⟨_, rfl⟩, ?_⟩ | refine ⟨fun _ => ?_, fun h => absurd h (by decide)⟩ | refine ⟨fun h => absurd h (by decide), fun _ => ?_⟩)
      refine mg_cn (c84 d (aF (sA S)) jf kc_s1.T w1 h4 (by omega) (by omega)) (by omega) ?_
      repeat (first | refine ⟨_, mg_Fs rfl rfl, ?_⟩ | refine ⟨Or.inl rfl, ?_⟩ | refine ⟨Or.inr ⟨_, rfl⟩, ?_⟩ | refine ⟨fun _ => ?_, fun h => absurd h (by decide)⟩ | refine ⟨fun h => absurd h (by decide), fun _ => ?_⟩)
      refine mg_m_mono (cAddW (T := a_not (aT (sA S) jf)) d hT1 h0 hF1 h11 (fun w hw => by
        show G1.2.1 32 (4 * jf + w) ^^^ (-1 : Int64) = a_wd (a_tb4 _) w
        rw [a_wd4 _ w (by omega), show G1.2.1 32 (4 * jf + w) = a_wd (aT (sA S) jf) w from hT1.rw (S := (sA S, a_push (sU S) (sA S), S.2.2)) kf w hw]) (a_per_not (hper jf kf))) (by omega) ?_
      rintro o q G2 ⟨rfl, rfl, hT2, hF2⟩
      exact ⟨Or.inl rfl, cA_v hT2 hF2 rfl⟩
theorem c139 (d : Nat) (hT : cT G S) (f v : Int32) (b : Bool) : mg_m (mg_KC scr t) (d + 20) 139 [.ref 0, .int f, .int v, .int (if b then 1 else 0)] G (cAp G (ex2 xI xS) (p310 S f v b)) := by
  have h8 := hT.v8
  have h4 := hT.w4
  have h3 := hT.w3
  have hper := hT.2.1.2.2.2.1
  unfold p310 cAp
  cases hf : vi f (aF (sA S)) with
  | none =>
    rw [pF_x hf]
    refine mg_me [] 60 my_139 ms_139 (Nat.le_of_ble_eq_true rfl) ?_
    repeat (first | refine ⟨_, mg_Fs rfl rfl, ?_⟩ | refine ⟨Or.inl rfl, ?_⟩ | refine ⟨Or.inr ⟨_, rfl⟩, ?_⟩ | refine ⟨fun _ => ?_, fun h => absurd h (by decide)⟩ | refine ⟨fun h => absurd h (by decide), fun _ => ?_⟩)
    refine mg_cx (c156x d hT hf) (by omega) ?_
    exact cA_x hT (by decide) rfl
  | some jf =>
    obtain ⟨rfl, kf⟩ := vi_s hf
    rw [pF_y hf]
    cases hv : vi v (aV (sA S)) with
    | none =>
      rw [pV_x hv]
      refine mg_me [] 60 my_139 ms_139 (Nat.le_of_ble_eq_true rfl) ?_
      repeat (first | refine ⟨_, mg_Fs rfl rfl, ?_⟩ | refine ⟨Or.inl rfl, ?_⟩ | refine ⟨Or.inr ⟨_, rfl⟩, ?_⟩ | refine ⟨fun _ => ?_, fun h => absurd h (by decide)⟩ | refine ⟨fun h => absurd h (by decide), fun _ => ?_⟩)
      refine mg_cn (c156y d hT hf) (by omega) ?_
      repeat (first | refine ⟨_, mg_Fs rfl rfl, ?_⟩ | refine ⟨Or.inl rfl, ?_⟩ | refine ⟨Or.inr ⟨_, rfl⟩, ?_⟩ | refine ⟨fun _ => ?_, fun h => absurd h (by decide)⟩ | refine ⟨fun h => absurd h (by decide), fun _ => ?_⟩)
      refine mg_cx (c157x d hT hv) (by omega) ?_
      exact cA_x hT (by decide) rfl
    | some jv =>
      obtain ⟨rfl, kv⟩ := vi_s hv
      rw [pV_y hv]
      by_cases h12 : aF (sA S) = 12
      · rw [show pNew S _ = (S, (2, 0)) from if_pos h12]
        refine mg_me [] 60 my_139 ms_139 (Nat.le_of_ble_eq_true rfl) ?_
        repeat (first | refine ⟨_, mg_Fs rfl rfl, ?_⟩ | refine ⟨Or.inl rfl, ?_⟩ | refine ⟨Or.inr ⟨_, rfl⟩, ?_⟩ | refine ⟨fun _ => ?_, fun h => absurd h (by decide)⟩ | refine ⟨fun h => absurd h (by decide), fun _ => ?_⟩)
        refine mg_cn (c156y d hT hf) (by omega) ?_
        repeat (first | refine ⟨_, mg_Fs rfl rfl, ?_⟩ | refine ⟨Or.inl rfl, ?_⟩ | refine ⟨Or.inr ⟨_, rfl⟩, ?_⟩ | refine ⟨fun _ => ?_, fun h => absurd h (by decide)⟩ | refine ⟨fun h => absurd h (by decide), fun _ => ?_⟩)
        refine mg_cn (c157y d hT hv) (by omega) ?_
        repeat (first | refine ⟨_, mg_Fs rfl rfl, ?_⟩ | refine ⟨Or.inl rfl, ?_⟩ | refine ⟨Or.inr ⟨_, rfl⟩, ?_⟩ | refine ⟨fun _ => ?_, fun h => absurd h (by decide)⟩ | refine ⟨fun h => absurd h (by decide), fun _ => ?_⟩)
        refine mg_cx (c162x d hT h12) (by omega) ?_
        exact cA_x hT (by decide) rfl
      · rw [show pNew S _ = (sAdd S _, (0, Int32.ofNat (aF (sA S)))) from if_neg h12]
        have h11 : aF (sA S) < 12 := by have := hT.f12; omega
        refine mg_me [] 90 my_139 ms_139 (Nat.le_of_ble_eq_true rfl) ?_
        repeat (first | refine ⟨_, mg_Fs rfl rfl, ?_⟩ | refine ⟨Or.inl rfl, ?_⟩ | refine ⟨Or.inr ⟨_, rfl⟩, ?_⟩ | refine ⟨fun _ => ?_, fun h => absurd h (by decide)⟩ | refine ⟨fun h => absurd h (by decide), fun _ => ?_⟩)
        refine mg_cn (c156y d hT hf) (by omega) ?_
        repeat (first | refine ⟨_, mg_Fs rfl rfl, ?_⟩ | refine ⟨Or.inl rfl, ?_⟩ | refine ⟨Or.inr ⟨_, rfl⟩, ?_⟩ | refine ⟨fun _ => ?_, fun h => absurd h (by decide)⟩ | refine ⟨fun h => absurd h (by decide), fun _ => ?_⟩)
        refine mg_cn (c157y d hT hv) (by omega) ?_
        repeat (first | refine ⟨_, mg_Fs rfl rfl, ?_⟩ | refine ⟨Or.inl rfl, ?_⟩ | refine ⟨Or.inr ⟨_, rfl⟩, ?_⟩ | refine ⟨fun _ => ?_, fun h => absurd h (by decide)⟩ | refine ⟨fun h => absurd h (by decide), fun _ => ?_⟩)
        refine mg_cn (c162y d hT h11) (by omega) ?_
        repeat (first | refine ⟨_, mg_Fs rfl rfl, ?_⟩ | refine ⟨Or.inl rfl, ?_⟩ | refine ⟨Or.inr ⟨_, rfl⟩, ?_⟩ | refine ⟨fun _ => ?_, fun h => absurd h (by decide)⟩ | refine ⟨fun h => absurd h (by decide), fun _ => ?_⟩)
        refine mg_m_mono (c163 d hT) (by omega) ?_
        rintro o q G1 ⟨rfl, rfl, hT1, h0, hF1⟩
        have e6 : G1.2.2.2.2 30 6 = .int (Int32.ofNat (aF (sA S))) := hT1.1.2.1
        have w1 : G1.2.2.2.2 31 1 = .int (Int32.ofNat (a_wds (aV (sA S)))) := hT1.1.1
        refine ⟨_, mg_Fs rfl rfl, _, mg_Fs rfl rfl, _, mg_Fs rfl rfl, _, mg_Fe e6 rfl rfl, ?_⟩
        repeat (first | refine ⟨_, mg_Fs rfl rfl, ?_⟩ | refine ⟨Or.inl rfl, ?_⟩ | refine ⟨Or.inr ⟨_, rfl⟩, ?_⟩ | refine ⟨fun _ => ?_, fun h => absurd h (by decide)⟩ | refine ⟨fun h => absurd h (by decide), fun _ => ?_⟩)
        refine mg_cn (c86 d (aF (sA S)) jf jv b kc_s1.T w1 h3 (by omega) (fun h6 => a_wds_v _ (by omega) jv kv h6) (by omega) (by omega) (by omega) (hT1.rw (S := (sA S, a_push (sU S) (sA S), S.2.2)) kf)) (by omega) ?_
        repeat (first | refine ⟨_, mg_Fs rfl rfl, ?_⟩ | refine ⟨Or.inl rfl, ?_⟩ | refine ⟨Or.inr ⟨_, rfl⟩, ?_⟩ | refine ⟨fun _ => ?_, fun h => absurd h (by decide)⟩ | refine ⟨fun h => absurd h (by decide), fun _ => ?_⟩)
        refine mg_m_mono (cAddW (T := a_cf (aT (sA S) jf) jv b) d hT1 h0 hF1 h11 (fun w hw => rfl) (a_pw_per (hper jf kf) (by omega) b)) (by omega) ?_
        rintro o q G2 ⟨rfl, rfl, hT2, hF2⟩
        exact ⟨Or.inl rfl, cA_v hT2 hF2 rfl⟩
theorem c140 (d : Nat) (hT : cT G S) (f v : Int32) (b : Bool) : mg_m (mg_KC scr t) (d + 20) 140 [.ref 0, .int f, .int v, .int (if b then 1 else 0)] G (cAp G (ex2 xI xS) (p311 S f v b)) := by
  have h8 := hT.v8
  have h4 := hT.w4
  have h3 := hT.w3
  have hper := hT.2.1.2.2.2.1
  unfold p311 cAp
  cases hf : vi f (aF (sA S)) with
  | none =>
    rw [pF_x hf]
    refine mg_me [] 60 my_140 ms_140 (Nat.le_of_ble_eq_true rfl) ?_
    repeat (first | refine ⟨_, mg_Fs rfl rfl, ?_⟩ | refine ⟨Or.inl rfl, ?_⟩ | refine ⟨Or.inr ⟨_, rfl⟩, ?_⟩ | refine ⟨fun _ => ?_, fun h => absurd h (by decide)⟩ | refine ⟨fun h => absurd h (by decide), fun _ => ?_⟩)
    refine mg_cx (c156x d hT hf) (by omega) ?_
    exact cA_x hT (by decide) rfl
  | some jf =>
    obtain ⟨rfl, kf⟩ := vi_s hf
    rw [pF_y hf]
    cases hv : vi v (aV (sA S)) with
    | none =>
      rw [pV_x hv]
      refine mg_me [] 60 my_140 ms_140 (Nat.le_of_ble_eq_true rfl) ?_
      repeat (first | refine ⟨_, mg_Fs rfl rfl, ?_⟩ | refine ⟨Or.inl rfl, ?_⟩ | refine ⟨Or.inr ⟨_, rfl⟩, ?_⟩ | refine ⟨fun _ => ?_, fun h => absurd h (by decide)⟩ | refine ⟨fun h => absurd h (by decide), fun _ => ?_⟩)
      refine mg_cn (c156y d hT hf) (by omega) ?_
      repeat (first | refine ⟨_, mg_Fs rfl rfl, ?_⟩ | refine ⟨Or.inl rfl, ?_⟩ | refine ⟨Or.inr ⟨_, rfl⟩, ?_⟩ | refine ⟨fun _ => ?_, fun h => absurd h (by decide)⟩ | refine ⟨fun h => absurd h (by decide), fun _ => ?_⟩)
      refine mg_cx (c157x d hT hv) (by omega) ?_
      exact cA_x hT (by decide) rfl
    | some jv =>
      obtain ⟨rfl, kv⟩ := vi_s hv
      rw [pV_y hv]
      by_cases h12 : aF (sA S) = 12
      · rw [show pNew S _ = (S, (2, 0)) from if_pos h12]
        refine mg_me [] 60 my_140 ms_140 (Nat.le_of_ble_eq_true rfl) ?_
        repeat (first | refine ⟨_, mg_Fs rfl rfl, ?_⟩ | refine ⟨Or.inl rfl, ?_⟩ | refine ⟨Or.inr ⟨_, rfl⟩, ?_⟩ | refine ⟨fun _ => ?_, fun h => absurd h (by decide)⟩ | refine ⟨fun h => absurd h (by decide), fun _ => ?_⟩)
        refine mg_cn (c156y d hT hf) (by omega) ?_
        repeat (first | refine ⟨_, mg_Fs rfl rfl, ?_⟩ | refine ⟨Or.inl rfl, ?_⟩ | refine ⟨Or.inr ⟨_, rfl⟩, ?_⟩ | refine ⟨fun _ => ?_, fun h => absurd h (by decide)⟩ | refine ⟨fun h => absurd h (by decide), fun _ => ?_⟩)
        refine mg_cn (c157y d hT hv) (by omega) ?_
        repeat (first | refine ⟨_, mg_Fs rfl rfl, ?_⟩ | refine ⟨Or.inl rfl, ?_⟩ | refine ⟨Or.inr ⟨_, rfl⟩, ?_⟩ | refine ⟨fun _ => ?_, fun h => absurd h (by decide)⟩ | refine ⟨fun h => absurd h (by decide), fun _ => ?_⟩)
        refine mg_cx (c162x d hT h12) (by omega) ?_
        exact cA_x hT (by decide) rfl
      · rw [show pNew S _ = (sAdd S _, (0, Int32.ofNat (aF (sA S)))) from if_neg h12]
        have h11 : aF (sA S) < 12 := by have := hT.f12; omega
        refine mg_me [] 90 my_140 ms_140 (Nat.le_of_ble_eq_true rfl) ?_
        repeat (first | refine ⟨_, mg_Fs rfl rfl, ?_⟩ | refine ⟨Or.inl rfl, ?_⟩ | refine ⟨Or.inr ⟨_, rfl⟩, ?_⟩ | refine ⟨fun _ => ?_, fun h => absurd h (by decide)⟩ | refine ⟨fun h => absurd h (by decide), fun _ => ?_⟩)
        refine mg_cn (c156y d hT hf) (by omega) ?_
        repeat (first | refine ⟨_, mg_Fs rfl rfl, ?_⟩ | refine ⟨Or.inl rfl, ?_⟩ | refine ⟨Or.inr ⟨_, rfl⟩, ?_⟩ | refine ⟨fun _ => ?_, fun h => absurd h (by decide)⟩ | refine ⟨fun h => absurd h (by decide), fun _ => ?_⟩)
        refine mg_cn (c157y d hT hv) (by omega) ?_
        repeat (first | refine ⟨_, mg_Fs rfl rfl, ?_⟩ | refine ⟨Or.inl rfl, ?_⟩ | refine ⟨Or.inr ⟨_, rfl⟩, ?_⟩ | refine ⟨fun _ => ?_, fun h => absurd h (by decide)⟩ | refine ⟨fun h => absurd h (by decide), fun _ => ?_⟩)
        refine mg_cn (c162y d hT h11) (by omega) ?_
        repeat (first | refine ⟨_, mg_Fs rfl rfl, ?_⟩ | refine ⟨Or.inl rfl, ?_⟩ | refine ⟨Or.inr ⟨_, rfl⟩, ?_⟩ | refine ⟨fun _ => ?_, fun h => absurd h (by decide)⟩ | refine ⟨fun h => absurd h (by decide), fun _ => ?_⟩)
        refine mg_m_mono (c163 d hT) (by omega) ?_
        rintro o q G1 ⟨rfl, rfl, hT1, h0, hF1⟩
        have e6 : G1.2.2.2.2 30 6 = .int (Int32.ofNat (aF (sA S))) := hT1.1.2.1
        have w1 : G1.2.2.2.2 31 1 = .int (Int32.ofNat (a_wds (aV (sA S)))) := hT1.1.1
        refine ⟨_, mg_Fs rfl rfl, _, mg_Fs rfl rfl, ?_⟩
        repeat (first | refine ⟨_, mg_Fs rfl rfl, ?_⟩ | refine ⟨Or.inl rfl, ?_⟩ | refine ⟨Or.inr ⟨_, rfl⟩, ?_⟩ | refine ⟨fun _ => ?_, fun h => absurd h (by decide)⟩ | refine ⟨fun h => absurd h (by decide), fun _ => ?_⟩)
        refine mg_cn (c86 d 12 jf jv false kc_s1.T w1 h3 (by omega) (fun h6 => a_wds_v _ (by omega) jv kv h6) (by omega) (by omega) (by omega) (hT1.rw (S := (sA S, a_push (sU S) (sA S), S.2.2)) kf)) (by omega) ?_
        have hT2 : cT (cW G1 32 12 (a_wds (aV (sA S))) (a_wd (a_cf (aT (sA S) jf) jv false))) (sA S, a_push (sU S) (sA S), S.2.2) := hT1.row (Nat.le_refl 12)
        have hF2 : cFr148 G (cW G1 32 12 (a_wds (aV (sA S))) (a_wd (a_cf (aT (sA S) jf) jv false))) := hF1.tr (mg_fr.cW _ _ _ _ (by decide))
        have r2 : cRow (cW G1 32 12 (a_wds (aV (sA S))) (a_wd (a_cf (aT (sA S) jf) jv false))) 32 12 (a_wds (aV (sA S))) (a_cf (aT (sA S) jf) jv false) := cW_row (fun w hw => rfl)
        have h02 : (cW G1 32 12 (a_wds (aV (sA S))) (a_wd (a_cf (aT (sA S) jf) jv false))).2.2.2.2 0 7 = .int 0 := h0
        have e62 : (cW G1 32 12 (a_wds (aV (sA S))) (a_wd (a_cf (aT (sA S) jf) jv false))).2.2.2.2 30 6 = .int (Int32.ofNat (aF (sA S))) := e6
        generalize cW G1 32 12 (a_wds (aV (sA S))) (a_wd (a_cf (aT (sA S) jf) jv false)) = G2 at hT2 hF2 r2 h02 e62 ⊢
        have w2 : G2.2.2.2.2 31 1 = .int (Int32.ofNat (a_wds (aV (sA S)))) := hT2.1.1
        refine ⟨_, mg_Fs rfl rfl, _, mg_Fs rfl rfl, ?_⟩
        repeat (first | refine ⟨_, mg_Fs rfl rfl, ?_⟩ | refine ⟨Or.inl rfl, ?_⟩ | refine ⟨Or.inr ⟨_, rfl⟩, ?_⟩ | refine ⟨fun _ => ?_, fun h => absurd h (by decide)⟩ | refine ⟨fun h => absurd h (by decide), fun _ => ?_⟩)
        refine mg_cn (c86 d 13 jf jv true kc_s1.T w2 h3 (by omega) (fun h6 => a_wds_v _ (by omega) jv kv h6) (by omega) (by omega) (by omega) (hT2.rw (S := (sA S, a_push (sU S) (sA S), S.2.2)) kf)) (by omega) ?_
        have hT3 : cT (cW G2 32 13 (a_wds (aV (sA S))) (a_wd (a_cf (aT (sA S) jf) jv true))) (sA S, a_push (sU S) (sA S), S.2.2) := hT2.row (by decide)
        have hF3 : cFr148 G (cW G2 32 13 (a_wds (aV (sA S))) (a_wd (a_cf (aT (sA S) jf) jv true))) := hF2.tr (mg_fr.cW _ _ _ _ (by decide))
        have r3 : cRow (cW G2 32 13 (a_wds (aV (sA S))) (a_wd (a_cf (aT (sA S) jf) jv true))) 32 13 (a_wds (aV (sA S))) (a_cf (aT (sA S) jf) jv true) := cW_row (fun w hw => rfl)
        have r23 : cRow (cW G2 32 13 (a_wds (aV (sA S))) (a_wd (a_cf (aT (sA S) jf) jv true))) 32 12 (a_wds (aV (sA S))) (a_cf (aT (sA S) jf) jv false) := r2.ne (by decide) h4 h4
        have h03 : (cW G2 32 13 (a_wds (aV (sA S))) (a_wd (a_cf (aT (sA S) jf) jv true))).2.2.2.2 0 7 = .int 0 := h02
        have e63 : (cW G2 32 13 (a_wds (aV (sA S))) (a_wd (a_cf (aT (sA S) jf) jv true))).2.2.2.2 30 6 = .int (Int32.ofNat (aF (sA S))) := e62
        generalize cW G2 32 13 (a_wds (aV (sA S))) (a_wd (a_cf (aT (sA S) jf) jv true)) = G3 at hT3 hF3 r3 r23 h03 e63 ⊢
        have w3 : G3.2.2.2.2 31 1 = .int (Int32.ofNat (a_wds (aV (sA S)))) := hT3.1.1
        refine ⟨_, mg_Fs rfl rfl, _, mg_Fs rfl rfl, ?_⟩
        cases b with
        | true =>
          refine ⟨fun h => absurd h (by decide), fun _ => ⟨_, mg_Fs rfl rfl, _, mg_Fe e63 rfl rfl, ?_⟩⟩
          repeat (first | refine ⟨_, mg_Fs rfl rfl, ?_⟩ | refine ⟨Or.inl rfl, ?_⟩ | refine ⟨Or.inr ⟨_, rfl⟩, ?_⟩ | refine ⟨fun _ => ?_, fun h => absurd h (by decide)⟩ | refine ⟨fun h => absurd h (by decide), fun _ => ?_⟩)
          refine mg_cn (c82 d (aF (sA S)) 12 13 kc_s1.T (0) w3 h4 (by omega) (by omega) (by omega)) (by omega) ?_
          repeat (first | refine ⟨_, mg_Fs rfl rfl, ?_⟩ | refine ⟨Or.inl rfl, ?_⟩ | refine ⟨Or.inr ⟨_, rfl⟩, ?_⟩ | refine ⟨fun _ => ?_, fun h => absurd h (by decide)⟩ | refine ⟨fun h => absurd h (by decide), fun _ => ?_⟩)
          refine mg_m_mono (cAddW (T := a_qu true jv (aT (sA S) jf)) d hT3 h03 hF3 h11 (fun w hw => by
            show a_comb (0) (G3.2.1 32 (4 * 12 + w)) (G3.2.1 32 (4 * 13 + w)) = a_wd (a_tb4 _) w
            rw [a_wd4 _ w (by omega), r23 w hw, r3 w hw]
            rfl) (a_per_op _ (a_pw_per (hper jf kf) (by omega) false) (a_pw_per (hper jf kf) (by omega) true))) (by omega) ?_
          rintro o q G4 ⟨rfl, rfl, hT4, hF4⟩
          exact ⟨Or.inl rfl, cA_v hT4 hF4 rfl⟩
        | false =>
          refine ⟨fun _ => ⟨_, mg_Fs rfl rfl, _, mg_Fe e63 rfl rfl, ?_⟩, fun h => absurd rfl h⟩
          repeat (first | refine ⟨_, mg_Fs rfl rfl, ?_⟩ | refine ⟨Or.inl rfl, ?_⟩ | refine ⟨Or.inr ⟨_, rfl⟩, ?_⟩ | refine ⟨fun _ => ?_, fun h => absurd h (by decide)⟩ | refine ⟨fun h => absurd h (by decide), fun _ => ?_⟩)
          refine mg_cn (c82 d (aF (sA S)) 12 13 kc_s1.T (1) w3 h4 (by omega) (by omega) (by omega)) (by omega) ?_
          repeat (first | refine ⟨_, mg_Fs rfl rfl, ?_⟩ | refine ⟨Or.inl rfl, ?_⟩ | refine ⟨Or.inr ⟨_, rfl⟩, ?_⟩ | refine ⟨fun _ => ?_, fun h => absurd h (by decide)⟩ | refine ⟨fun h => absurd h (by decide), fun _ => ?_⟩)
          refine mg_m_mono (cAddW (T := a_qu false jv (aT (sA S) jf)) d hT3 h03 hF3 h11 (fun w hw => by
            show a_comb (1) (G3.2.1 32 (4 * 12 + w)) (G3.2.1 32 (4 * 13 + w)) = a_wd (a_tb4 _) w
            rw [a_wd4 _ w (by omega), r23 w hw, r3 w hw]
            rfl) (a_per_op _ (a_pw_per (hper jf kf) (by omega) false) (a_pw_per (hper jf kf) (by omega) true))) (by omega) ?_
          rintro o q G4 ⟨rfl, rfl, hT4, hF4⟩
          exact ⟨Or.inl rfl, cA_v hT4 hF4 rfl⟩
theorem c141 (d : Nat) (hT : cT G S) (f v g : Int32) : mg_m (mg_KC scr t) (d + 20) 141 [.ref 0, .int f, .int v, .int g] G (cAp G (ex2 xI xS) (p312 S f v g)) := by
  have h8 := hT.v8
  have h4 := hT.w4
  have h3 := hT.w3
  have hper := hT.2.1.2.2.2.1
  unfold p312 cAp
  cases hf : vi f (aF (sA S)) with
  | none =>
    rw [pF_x hf]
    refine mg_me [] 60 my_141 ms_141 (Nat.le_of_ble_eq_true rfl) ?_
    repeat (first | refine ⟨_, mg_Fs rfl rfl, ?_⟩ | refine ⟨Or.inl rfl, ?_⟩ | refine ⟨Or.inr ⟨_, rfl⟩, ?_⟩ | refine ⟨fun _ => ?_, fun h => absurd h (by decide)⟩ | refine ⟨fun h => absurd h (by decide), fun _ => ?_⟩)
    refine mg_cx (c156x d hT hf) (by omega) ?_
    exact cA_x hT (by decide) rfl
  | some jf =>
    obtain ⟨rfl, kf⟩ := vi_s hf
    rw [pF_y hf]
    cases hv : vi v (aV (sA S)) with
    | none =>
      rw [pV_x hv]
      refine mg_me [] 60 my_141 ms_141 (Nat.le_of_ble_eq_true rfl) ?_
      repeat (first | refine ⟨_, mg_Fs rfl rfl, ?_⟩ | refine ⟨Or.inl rfl, ?_⟩ | refine ⟨Or.inr ⟨_, rfl⟩, ?_⟩ | refine ⟨fun _ => ?_, fun h => absurd h (by decide)⟩ | refine ⟨fun h => absurd h (by decide), fun _ => ?_⟩)
      refine mg_cn (c156y d hT hf) (by omega) ?_
      repeat (first | refine ⟨_, mg_Fs rfl rfl, ?_⟩ | refine ⟨Or.inl rfl, ?_⟩ | refine ⟨Or.inr ⟨_, rfl⟩, ?_⟩ | refine ⟨fun _ => ?_, fun h => absurd h (by decide)⟩ | refine ⟨fun h => absurd h (by decide), fun _ => ?_⟩)
      refine mg_cx (c157x d hT hv) (by omega) ?_
      exact cA_x hT (by decide) rfl
    | some jv =>
      obtain ⟨rfl, kv⟩ := vi_s hv
      rw [pV_y hv]
      cases hg : vi g (aF (sA S)) with
      | none =>
        rw [pF_x hg]
        refine mg_me [] 60 my_141 ms_141 (Nat.le_of_ble_eq_true rfl) ?_
        repeat (first | refine ⟨_, mg_Fs rfl rfl, ?_⟩ | refine ⟨Or.inl rfl, ?_⟩ | refine ⟨Or.inr ⟨_, rfl⟩, ?_⟩ | refine ⟨fun _ => ?_, fun h => absurd h (by decide)⟩ | refine ⟨fun h => absurd h (by decide), fun _ => ?_⟩)
        refine mg_cn (c156y d hT hf) (by omega) ?_
        repeat (first | refine ⟨_, mg_Fs rfl rfl, ?_⟩ | refine ⟨Or.inl rfl, ?_⟩ | refine ⟨Or.inr ⟨_, rfl⟩, ?_⟩ | refine ⟨fun _ => ?_, fun h => absurd h (by decide)⟩ | refine ⟨fun h => absurd h (by decide), fun _ => ?_⟩)
        refine mg_cn (c157y d hT hv) (by omega) ?_
        repeat (first | refine ⟨_, mg_Fs rfl rfl, ?_⟩ | refine ⟨Or.inl rfl, ?_⟩ | refine ⟨Or.inr ⟨_, rfl⟩, ?_⟩ | refine ⟨fun _ => ?_, fun h => absurd h (by decide)⟩ | refine ⟨fun h => absurd h (by decide), fun _ => ?_⟩)
        refine mg_cx (c156x d hT hg) (by omega) ?_
        exact cA_x hT (by decide) rfl
      | some jg =>
        obtain ⟨rfl, kg⟩ := vi_s hg
        rw [pF_y hg]
        by_cases h12 : aF (sA S) = 12
        · rw [show pNew S _ = (S, (2, 0)) from if_pos h12]
          refine mg_me [] 60 my_141 ms_141 (Nat.le_of_ble_eq_true rfl) ?_
          repeat (first | refine ⟨_, mg_Fs rfl rfl, ?_⟩ | refine ⟨Or.inl rfl, ?_⟩ | refine ⟨Or.inr ⟨_, rfl⟩, ?_⟩ | refine ⟨fun _ => ?_, fun h => absurd h (by decide)⟩ | refine ⟨fun h => absurd h (by decide), fun _ => ?_⟩)
          refine mg_cn (c156y d hT hf) (by omega) ?_
          repeat (first | refine ⟨_, mg_Fs rfl rfl, ?_⟩ | refine ⟨Or.inl rfl, ?_⟩ | refine ⟨Or.inr ⟨_, rfl⟩, ?_⟩ | refine ⟨fun _ => ?_, fun h => absurd h (by decide)⟩ | refine ⟨fun h => absurd h (by decide), fun _ => ?_⟩)
          refine mg_cn (c157y d hT hv) (by omega) ?_
          repeat (first | refine ⟨_, mg_Fs rfl rfl, ?_⟩ | refine ⟨Or.inl rfl, ?_⟩ | refine ⟨Or.inr ⟨_, rfl⟩, ?_⟩ | refine ⟨fun _ => ?_, fun h => absurd h (by decide)⟩ | refine ⟨fun h => absurd h (by decide), fun _ => ?_⟩)
          refine mg_cn (c156y d hT hg) (by omega) ?_
          repeat (first | refine ⟨_, mg_Fs rfl rfl, ?_⟩ | refine ⟨Or.inl rfl, ?_⟩ | refine ⟨Or.inr ⟨_, rfl⟩, ?_⟩ | refine ⟨fun _ => ?_, fun h => absurd h (by decide)⟩ | refine ⟨fun h => absurd h (by decide), fun _ => ?_⟩)
          refine mg_cx (c162x d hT h12) (by omega) ?_
          exact cA_x hT (by decide) rfl
        · rw [show pNew S _ = (sAdd S _, (0, Int32.ofNat (aF (sA S)))) from if_neg h12]
          have h11 : aF (sA S) < 12 := by have := hT.f12; omega
          refine mg_me [] 90 my_141 ms_141 (Nat.le_of_ble_eq_true rfl) ?_
          repeat (first | refine ⟨_, mg_Fs rfl rfl, ?_⟩ | refine ⟨Or.inl rfl, ?_⟩ | refine ⟨Or.inr ⟨_, rfl⟩, ?_⟩ | refine ⟨fun _ => ?_, fun h => absurd h (by decide)⟩ | refine ⟨fun h => absurd h (by decide), fun _ => ?_⟩)
          refine mg_cn (c156y d hT hf) (by omega) ?_
          repeat (first | refine ⟨_, mg_Fs rfl rfl, ?_⟩ | refine ⟨Or.inl rfl, ?_⟩ | refine ⟨Or.inr ⟨_, rfl⟩, ?_⟩ | refine ⟨fun _ => ?_, fun h => absurd h (by decide)⟩ | refine ⟨fun h => absurd h (by decide), fun _ => ?_⟩)
          refine mg_cn (c157y d hT hv) (by omega) ?_
          repeat (first | refine ⟨_, mg_Fs rfl rfl, ?_⟩ | refine ⟨Or.inl rfl, ?_⟩ | refine ⟨Or.inr ⟨_, rfl⟩, ?_⟩ | refine ⟨fun _ => ?_, fun h => absurd h (by decide)⟩ | refine ⟨fun h => absurd h (by decide), fun _ => ?_⟩)
          refine mg_cn (c156y d hT hg) (by omega) ?_
          repeat (first | refine ⟨_, mg_Fs rfl rfl, ?_⟩ | refine ⟨Or.inl rfl, ?_⟩ | refine ⟨Or.inr ⟨_, rfl⟩, ?_⟩ | refine ⟨fun _ => ?_, fun h => absurd h (by decide)⟩ | refine ⟨fun h => absurd h (by decide), fun _ => ?_⟩)
          refine mg_cn (c162y d hT h11) (by omega) ?_
          repeat (first | refine ⟨_, mg_Fs rfl rfl, ?_⟩ | refine ⟨Or.inl rfl, ?_⟩ | refine ⟨Or.inr ⟨_, rfl⟩, ?_⟩ | refine ⟨fun _ => ?_, fun h => absurd h (by decide)⟩ | refine ⟨fun h => absurd h (by decide), fun _ => ?_⟩)
          refine mg_m_mono (c163 d hT) (by omega) ?_
          rintro o q G1 ⟨rfl, rfl, hT1, h0, hF1⟩
          have e6 : G1.2.2.2.2 30 6 = .int (Int32.ofNat (aF (sA S))) := hT1.1.2.1
          have w1 : G1.2.2.2.2 31 1 = .int (Int32.ofNat (a_wds (aV (sA S)))) := hT1.1.1
          refine ⟨_, mg_Fs rfl rfl, _, mg_Fs rfl rfl, ?_⟩
          repeat (first | refine ⟨_, mg_Fs rfl rfl, ?_⟩ | refine ⟨Or.inl rfl, ?_⟩ | refine ⟨Or.inr ⟨_, rfl⟩, ?_⟩ | refine ⟨fun _ => ?_, fun h => absurd h (by decide)⟩ | refine ⟨fun h => absurd h (by decide), fun _ => ?_⟩)
          refine mg_cn (c86 d 12 jf jv false kc_s1.T w1 h3 (by omega) (fun h6 => a_wds_v _ (by omega) jv kv h6) (by omega) (by omega) (by omega) (hT1.rw (S := (sA S, a_push (sU S) (sA S), S.2.2)) kf)) (by omega) ?_
          have hT2 : cT (cW G1 32 12 (a_wds (aV (sA S))) (a_wd (a_cf (aT (sA S) jf) jv false))) (sA S, a_push (sU S) (sA S), S.2.2) := hT1.row (Nat.le_refl 12)
          have hF2 : cFr148 G (cW G1 32 12 (a_wds (aV (sA S))) (a_wd (a_cf (aT (sA S) jf) jv false))) := hF1.tr (mg_fr.cW _ _ _ _ (by decide))
          have r2 : cRow (cW G1 32 12 (a_wds (aV (sA S))) (a_wd (a_cf (aT (sA S) jf) jv false))) 32 12 (a_wds (aV (sA S))) (a_cf (aT (sA S) jf) jv false) := cW_row (fun w hw => rfl)
          have h02 : (cW G1 32 12 (a_wds (aV (sA S))) (a_wd (a_cf (aT (sA S) jf) jv false))).2.2.2.2 0 7 = .int 0 := h0
          have e62 : (cW G1 32 12 (a_wds (aV (sA S))) (a_wd (a_cf (aT (sA S) jf) jv false))).2.2.2.2 30 6 = .int (Int32.ofNat (aF (sA S))) := e6
          generalize cW G1 32 12 (a_wds (aV (sA S))) (a_wd (a_cf (aT (sA S) jf) jv false)) = G2 at hT2 hF2 r2 h02 e62 ⊢
          have w2 : G2.2.2.2.2 31 1 = .int (Int32.ofNat (a_wds (aV (sA S)))) := hT2.1.1
          refine ⟨_, mg_Fs rfl rfl, _, mg_Fs rfl rfl, ?_⟩
          repeat (first | refine ⟨_, mg_Fs rfl rfl, ?_⟩ | refine ⟨Or.inl rfl, ?_⟩ | refine ⟨Or.inr ⟨_, rfl⟩, ?_⟩ | refine ⟨fun _ => ?_, fun h => absurd h (by decide)⟩ | refine ⟨fun h => absurd h (by decide), fun _ => ?_⟩)
          refine mg_cn (c86 d 13 jf jv true kc_s1.T w2 h3 (by omega) (fun h6 => a_wds_v _ (by omega) jv kv h6) (by omega) (by omega) (by omega) (hT2.rw (S := (sA S, a_push (sU S) (sA S), S.2.2)) kf)) (by omega) ?_
          have hT3 : cT (cW G2 32 13 (a_wds (aV (sA S))) (a_wd (a_cf (aT (sA S) jf) jv true))) (sA S, a_push (sU S) (sA S), S.2.2) := hT2.row (by decide)
          have hF3 : cFr148 G (cW G2 32 13 (a_wds (aV (sA S))) (a_wd (a_cf (aT (sA S) jf) jv true))) := hF2.tr (mg_fr.cW _ _ _ _ (by decide))
          have r3 : cRow (cW G2 32 13 (a_wds (aV (sA S))) (a_wd (a_cf (aT (sA S) jf) jv true))) 32 13 (a_wds (aV (sA S))) (a_cf (aT (sA S) jf) jv true) := cW_row (fun w hw => rfl)
          have r23 : cRow (cW G2 32 13 (a_wds (aV (sA S))) (a_wd (a_cf (aT (sA S) jf) jv true))) 32 12 (a_wds (aV (sA S))) (a_cf (aT (sA S) jf) jv false) := r2.ne (by decide) h4 h4
          have h03 : (cW G2 32 13 (a_wds (aV (sA S))) (a_wd (a_cf (aT (sA S) jf) jv true))).2.2.2.2 0 7 = .int 0 := h02
          have e63 : (cW G2 32 13 (a_wds (aV (sA S))) (a_wd (a_cf (aT (sA S) jf) jv true))).2.2.2.2 30 6 = .int (Int32.ofNat (aF (sA S))) := e62
          generalize cW G2 32 13 (a_wds (aV (sA S))) (a_wd (a_cf (aT (sA S) jf) jv true)) = G3 at hT3 hF3 r3 r23 h03 e63 ⊢
          have w3 : G3.2.2.2.2 31 1 = .int (Int32.ofNat (a_wds (aV (sA S)))) := hT3.1.1
          refine ⟨_, mg_Fs rfl rfl, _, mg_Fs rfl rfl, _, mg_Fs rfl rfl, _, mg_Fe e63 rfl rfl, ?_⟩
          repeat (first | refine ⟨_, mg_Fs rfl rfl, ?_⟩ | refine ⟨Or.inl rfl, ?_⟩ | refine ⟨Or.inr ⟨_, rfl⟩, ?_⟩ | refine ⟨fun _ => ?_, fun h => absurd h (by decide)⟩ | refine ⟨fun h => absurd h (by decide), fun _ => ?_⟩)
          refine mg_cn (c85 d (aF (sA S)) jg 13 12 kc_s1.T w3 h4 (by omega) (by omega) (by omega) (by omega)) (by omega) ?_
          repeat (first | refine ⟨_, mg_Fs rfl rfl, ?_⟩ | refine ⟨Or.inl rfl, ?_⟩ | refine ⟨Or.inr ⟨_, rfl⟩, ?_⟩ | refine ⟨fun _ => ?_, fun h => absurd h (by decide)⟩ | refine ⟨fun h => absurd h (by decide), fun _ => ?_⟩)
          refine mg_m_mono (cAddW (T := a_sel (aT (sA S) jg) (a_cf (aT (sA S) jf) jv true) (a_cf (aT (sA S) jf) jv false)) d hT3 h03 hF3 h11 (fun w hw => by
            show (G3.2.1 32 (4 * jg + w) &&& G3.2.1 32 (4 * 13 + w)) ||| ((G3.2.1 32 (4 * jg + w) ^^^ (-1 : Int64)) &&& G3.2.1 32 (4 * 12 + w)) = a_wd (a_tb4 _) w
            rw [a_wd4 _ w (by omega), r23 w hw, r3 w hw, show G3.2.1 32 (4 * jg + w) = a_wd (aT (sA S) jg) w from hT3.rw (S := (sA S, a_push (sU S) (sA S), S.2.2)) kg w hw]) (a_per_sel (hper jg kg) (a_pw_per (hper jf kf) (by omega) true) (a_pw_per (hper jf kf) (by omega) false))) (by omega) ?_
          rintro o q G4 ⟨rfl, rfl, hT4, hF4⟩
          exact ⟨Or.inl rfl, cA_v hT4 hF4 rfl⟩
end KC
