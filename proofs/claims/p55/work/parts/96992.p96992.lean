section KC
variable {scr : Nat × (Nat → Int32)} {t : List mg_S} {G : mg_G} {S : a_S} {A : a_A} {l : List Nat} {p : Nat}
/-- behind the letters -/
theorem c93d (d : Nat) (hI : cIn G l) (hp : p ≤ l.length) (hB : ckB G l) (h2 : G.2.2.2.2 12 2 = .int (Int32.ofNat (k_S l p + k_a l p))) (h4 : G.2.2.2.2 12 4 = .int (Int32.ofNat (k_S l p))) (h7 : k_a l p ≤ 7 → G.2.2.2.2 12 7 = .long (a_pk (k_W l p))) : mg_wp (mg_KC scr t) mc_93 (d + 1) 147 [some (.ref 12)] [] G (c93Q G l p) := by
  have hl600 := hI.2.1
  have hSle := k_S_le hp
  have hEle : k_S l p + k_a l p ≤ l.length := k_run_le kLt l _ hSle
  have e3 : Int32.ofNat (k_S l p + k_a l p) - Int32.ofNat (k_S l p) = Int32.ofNat (k_a l p) := by rw [Int32.ofNat_add, Int32.add_comm, Int32.add_sub_cancel]
  by_cases ha : 0 < k_a l p
  · have hE : k_E l p = k_S l p + k_a l p := if_pos ha
    have fin : ∀ y : Nat, k_K l p = y → y ≠ 2 → y ≠ 3 → (y = 1 → k_a l p ≤ 7) → c93Q G l p (.inl none) 0 (mg_sF G 12 3 (.int (Int32.ofNat y))) := fun y hy y1 y3 y7 => ⟨rfl, rfl, hB.s _ _ (by decide), ⟨by rw [hE]; exact (mg_sF_ne _ _ (by decide)).trans h2, by rw [hy]; exact mg_sF_at _ _ _ _, (mg_sF_ne _ _ (by decide)).trans h4, fun q => (mg_sF_ne _ _ (by decide)).trans (h7 (y7 (hy.symm.trans q))), fun q => absurd (hy.symm.trans q) y1, fun q => absurd (hy.symm.trans q) y3⟩, mg_fr.sF _ _ _ rfl⟩
    refine mg_go [187] 60 147 ms_93 ?_
    repeat (first | refine ⟨_, mg_Fs rfl rfl, ?_⟩ | refine ⟨Or.inl rfl, ?_⟩ | refine ⟨Or.inr ⟨_, rfl⟩, ?_⟩ | refine ⟨fun _ => ?_, fun h => absurd h (by decide)⟩ | refine ⟨fun h => absurd h (by decide), fun _ => ?_⟩)
    refine ⟨_, mg_Fe h2 rfl rfl, ?_⟩
    repeat (first | refine ⟨_, mg_Fs rfl rfl, ?_⟩ | refine ⟨Or.inl rfl, ?_⟩ | refine ⟨Or.inr ⟨_, rfl⟩, ?_⟩ | refine ⟨fun _ => ?_, fun h => absurd h (by decide)⟩ | refine ⟨fun h => absurd h (by decide), fun _ => ?_⟩)
    refine ⟨_, mg_Fe h4 rfl rfl, fun h => absurd h (mg_nle (by omega) (by omega)), fun _ => ?_⟩
    repeat (first | refine ⟨_, mg_Fs rfl rfl, ?_⟩ | refine ⟨Or.inl rfl, ?_⟩ | refine ⟨Or.inr ⟨_, rfl⟩, ?_⟩ | refine ⟨fun _ => ?_, fun h => absurd h (by decide)⟩ | refine ⟨fun h => absurd h (by decide), fun _ => ?_⟩)
    refine ⟨_, mg_Fe h2 rfl rfl, _, mg_Fe h4 rfl rfl, fun h => ?_, fun h => ?_⟩
    · have h : (Int8.ofInt 7).toInt32 < Int32.ofNat (k_S l p + k_a l p) - Int32.ofNat (k_S l p) := h
      rw [e3] at h
      have h := (mg_ltN (a := 7) (by decide) (by omega)).mp h
      exact ⟨rfl, _, rfl, rfl, fin 4 (by unfold k_K; rw [if_pos ha, if_neg (by omega)]) (by decide) (by decide) (fun q => absurd q (by decide))⟩
    · have h : Int32.ofNat (k_S l p + k_a l p) - Int32.ofNat (k_S l p) ≤ (Int8.ofInt 7).toInt32 := h
      rw [e3] at h
      have h := (mg_leN (b := 7) (by omega) (by decide)).mp h
      exact ⟨rfl, _, rfl, rfl, fin 1 (by unfold k_K; rw [if_pos ha, if_pos h]) (by decide) (by decide) (fun _ => h)⟩
  · have ha0 : k_a l p = 0 := by omega
    rw [ha0, Nat.add_zero] at h2
    refine mg_go [187] 60 147 ms_93 ?_
    repeat (first | refine ⟨_, mg_Fs rfl rfl, ?_⟩ | refine ⟨Or.inl rfl, ?_⟩ | refine ⟨Or.inr ⟨_, rfl⟩, ?_⟩ | refine ⟨fun _ => ?_, fun h => absurd h (by decide)⟩ | refine ⟨fun h => absurd h (by decide), fun _ => ?_⟩)
    refine ⟨_, mg_Fe h2 rfl rfl, ?_⟩
    repeat (first | refine ⟨_, mg_Fs rfl rfl, ?_⟩ | refine ⟨Or.inl rfl, ?_⟩ | refine ⟨Or.inr ⟨_, rfl⟩, ?_⟩ | refine ⟨fun _ => ?_, fun h => absurd h (by decide)⟩ | refine ⟨fun h => absurd h (by decide), fun _ => ?_⟩)
    refine ⟨_, mg_Fe h4 rfl rfl, fun _ => ?_, fun h => absurd h (Int32.not_lt.mpr (Int32.le_refl _))⟩
    have sf : cTf G (mg_sF G 12 5 (.int (Int32.ofInt 0))) := mg_fr.sF _ _ _ rfl
    refine ⟨rfl, _, rfl, rfl, ?_⟩
    exact mg_wp_mono (c93b (G := mg_sF G 12 5 (.int (Int32.ofInt 0))) d (sf.n hI) hp (hB.s _ _ (by decide)) ((mg_sF_ne _ _ (by decide)).trans h2) ((mg_sF_ne _ _ (by decide)).trans h4) (mg_sF_at _ _ _ _) ha) (fun o q G2 w => w.m sf)
theorem c93a (d : Nat) (hI : cIn G l) (hp : p ≤ l.length) (hB : ckB G l) (h2 : G.2.2.2.2 12 2 = .int (Int32.ofNat (k_S l p))) (h4 : G.2.2.2.2 12 4 = .int (Int32.ofNat (k_S l p))) (h7 : G.2.2.2.2 12 7 = .long 0) : mg_wp (mg_KC scr t) mc_93 (d + 1) 73 [some (.ref 12)] [] G (c93Q G l p) := by
  have hl600 := hI.2.1
  have hSle := k_S_le hp
  have hEle : k_S l p + k_a l p ≤ l.length := k_run_le kLt l _ hSle
  refine mg_loop (k_a l p) (fun k L G' => L = [some (.ref 12)] ∧ ckB G' l ∧ G'.2.2.2.2 12 2 = .int (Int32.ofNat (k_S l p + k)) ∧ G'.2.2.2.2 12 4 = .int (Int32.ofNat (k_S l p)) ∧ (∃ x, G'.2.2.2.2 12 7 = .long x ∧ (k ≤ 7 → x = a_pk ((l.drop (k_S l p)).take k))) ∧ cTf G G') ?_ ?_ _ _ ⟨rfl, hB, h2, h4, ⟨_, h7, fun _ => by rw [List.take_zero]; rfl⟩, mg_fr.rf _ _⟩
  · rintro k L G' hk ⟨rfl, hB, g2, g4, ⟨x, g7, hx⟩, hf⟩ ih
    obtain ⟨c, hc, hP, hts⟩ := k_take_s hk
    have hlt := (List.getElem?_eq_some_iff.mp hc).1
    obtain ⟨-, -, hb⟩ := hf.n hI
    obtain ⟨b1, b2'⟩ := hb _ _ hc
    obtain ⟨e1, e2⟩ := a_sx_l c b2'
    have e2 := e2 hP
    have hq : ¬ (a_sx c < (Int8.ofInt 97).toInt32 ∨ (Int8.ofInt 122).toInt32 < a_sx c) := fun q => by rw [e1.mp q] at hP; cases hP
    refine mg_go [73] 60 73 ms_93 ?_
    repeat (first | refine ⟨_, mg_Fs rfl rfl, ?_⟩ | refine ⟨Or.inl rfl, ?_⟩ | refine ⟨Or.inr ⟨_, rfl⟩, ?_⟩ | refine ⟨fun _ => ?_, fun h => absurd h (by decide)⟩ | refine ⟨fun h => absurd h (by decide), fun _ => ?_⟩)
    refine ⟨_, mg_Fe g2 rfl rfl, ?_⟩
    repeat (first | refine ⟨_, mg_Fs rfl rfl, ?_⟩ | refine ⟨Or.inl rfl, ?_⟩ | refine ⟨Or.inr ⟨_, rfl⟩, ?_⟩ | refine ⟨fun _ => ?_, fun h => absurd h (by decide)⟩ | refine ⟨fun h => absurd h (by decide), fun _ => ?_⟩)
    refine ⟨_, mg_Fe hB.2 rfl rfl, fun h => absurd h (mg_nle hlt (by omega)), fun _ => ?_⟩
    refine ⟨_, mg_Fe hB.1 rfl rfl, _, mg_Fe g2 rfl rfl, 2, 600, _, k_S l p + k, mg_Ab rfl (by decide), Or.inl rfl, mg_ixN (by omega), by omega, ?_⟩
    rw [b1]
    refine ⟨fun h => absurd (Or.inl h) hq, fun _ => ?_⟩
    refine ⟨_, mg_Fe hB.1 rfl rfl, _, mg_Fe g2 rfl rfl, 2, 600, _, k_S l p + k, mg_Ab rfl (by decide), Or.inl rfl, mg_ixN (by omega), by omega, ?_⟩
    rw [b1]
    refine ⟨fun h => absurd (Or.inr h) hq, fun _ => ?_⟩
    refine ⟨_, mg_Fe g7 rfl rfl, ?_⟩
    refine ⟨_, mg_Fe hB.1 rfl rfl, _, mg_Fe g2 rfl rfl, 2, 600, _, k_S l p + k, mg_Ab rfl (by decide), Or.inl rfl, mg_ixN (by omega), by omega, ?_⟩
    rw [b1]
    have en : k + 1 ≤ 7 → (x <<< (((Int8.ofInt 8).toInt32).toInt64 &&& 63)) ||| (a_sx c).toInt64 = a_pk ((l.drop (k_S l p)).take (k + 1)) := fun q => by
      have hlen : ((l.drop (k_S l p)).take k).length = k := k_run_len hSle (Nat.le_of_lt hk)
      have hlet : a_let ((l.drop (k_S l p)).take k) := fun c hc => by
        have := k_run_P (P := kLt) (Nat.le_of_lt hk) c hc
        rw [Bool.and_eq_true, decide_eq_true_eq, decide_eq_true_eq] at this
        exact this
      rw [hx (by omega), hts, e2]
      exact a_pk_s ⟨hlet, by omega⟩ (by omega) (by
        simp only [kLt, Bool.and_eq_true, decide_eq_true_eq] at hP
        omega)
    refine ⟨rfl, _, rfl, rfl, ?_⟩
    have u2 : (mg_sF G' 12 7 (.long ((x <<< (((Int8.ofInt 8).toInt32).toInt64 &&& 63)) ||| (a_sx c).toInt64))).2.2.2.2 12 2 = .int (Int32.ofNat (k_S l p + k)) := (mg_sF_ne _ _ (by decide)).trans g2
    refine ⟨_, mg_Fe u2 rfl rfl, rfl, _, rfl, rfl, ih _ _ ⟨rfl, (hB.s 7 _ (by decide)).s 2 _ (by decide), (mg_sF_at _ _ _ _).trans (congrArg Value.int (mg_inc _)), (mg_sF_ne _ _ (by decide)).trans ((mg_sF_ne _ _ (by decide)).trans g4), ⟨_, (mg_sF_ne _ _ (by decide)).trans (mg_sF_at _ _ _ _), en⟩, (hf.tr (mg_fr.sF _ _ _ rfl)).tr (mg_fr.sF _ _ _ rfl)⟩⟩
  · rintro L G' ⟨rfl, hB, g2, g4, ⟨x, g7, hx⟩, hf⟩
    have fin : mg_wp (mg_KC scr t) mc_93 (d + 1) 147 [some (.ref 12)] [] G' (c93Q G l p) := mg_wp_mono (c93d d (hf.n hI) hp hB g2 g4 (fun q => g7.trans (congrArg Value.long (hx q)))) (fun o q G2 w => w.m hf)
    obtain ⟨-, -, hb⟩ := hf.n hI
    refine mg_go [147] 60 73 ms_93 ?_
    repeat (first | refine ⟨_, mg_Fs rfl rfl, ?_⟩ | refine ⟨Or.inl rfl, ?_⟩ | refine ⟨Or.inr ⟨_, rfl⟩, ?_⟩ | refine ⟨fun _ => ?_, fun h => absurd h (by decide)⟩ | refine ⟨fun h => absurd h (by decide), fun _ => ?_⟩)
    refine ⟨_, mg_Fe g2 rfl rfl, ?_⟩
    repeat (first | refine ⟨_, mg_Fs rfl rfl, ?_⟩ | refine ⟨Or.inl rfl, ?_⟩ | refine ⟨Or.inr ⟨_, rfl⟩, ?_⟩ | refine ⟨fun _ => ?_, fun h => absurd h (by decide)⟩ | refine ⟨fun h => absurd h (by decide), fun _ => ?_⟩)
    refine ⟨_, mg_Fe hB.2 rfl rfl, fun _ => fin, fun h => ?_⟩
    have h := (mg_ltN (by omega) (by omega)).mp h
    have hc := List.getElem?_eq_getElem h
    obtain ⟨b1, b2'⟩ := hb _ _ hc
    have hP := k_run_end (P := kLt) (k_a l p) (k_S l p) rfl _ hc
    have hq := (a_sx_l _ b2').1.mpr hP
    refine ⟨_, mg_Fe hB.1 rfl rfl, _, mg_Fe g2 rfl rfl, 2, 600, _, k_S l p + k_a l p, mg_Ab rfl (by decide), Or.inl rfl, mg_ixN (by omega), by omega, ?_⟩
    rw [b1]
    refine ⟨fun _ => fin, fun h1 => ?_⟩
    refine ⟨_, mg_Fe hB.1 rfl rfl, _, mg_Fe g2 rfl rfl, 2, 600, _, k_S l p + k_a l p, mg_Ab rfl (by decide), Or.inl rfl, mg_ixN (by omega), by omega, ?_⟩
    rw [b1]
    exact ⟨fun _ => fin, fun h2 => absurd hq (fun q => q.elim (fun q => absurd q (Int32.not_lt.mpr h1)) (fun q => absurd q (Int32.not_lt.mpr h2)))⟩
theorem c93 (d : Nat) (hI : cIn G l) (hp : p ≤ l.length) (hB : ckB G l) (h2 : G.2.2.2.2 12 2 = .int (Int32.ofNat p)) : mg_m (mg_KC scr t) (d + 2) 93 [.ref 12] G (c93Q G l p) := by
  have hl600 := hI.2.1
  have hSle := k_S_le hp
  have f0 : cTf G (mg_sF G 12 4 (.int (Int32.ofNat p))) := mg_fr.sF _ _ _ rfl
  refine mg_me [8] 60 my_93 ms_93 (Nat.le_of_ble_eq_true rfl) ?_
  refine ⟨_, mg_Fe h2 rfl rfl, rfl, _, rfl, rfl, ?_⟩
  refine mg_loop (k_run kSp l p) (fun k L G' => L = [some (.ref 12)] ∧ ckB G' l ∧ G'.2.2.2.2 12 4 = .int (Int32.ofNat (p + k)) ∧ cTf G G') ?_ ?_ _ _ ⟨rfl, hB.s _ _ (by decide), mg_sF_at _ _ _ _, f0⟩
  · rintro k L G' hk ⟨rfl, hB, g4, hf⟩ ih
    obtain ⟨c, hc, hP⟩ := k_run_at hk
    have hlt := (List.getElem?_eq_some_iff.mp hc).1
    obtain ⟨-, -, hb⟩ := hf.n hI
    obtain ⟨b1, b2'⟩ := hb _ _ hc
    obtain ⟨e1, e2⟩ := a_sx_sp c b2'
    have st : mg_wp (mg_KC scr t) mc_93 (d + 1) 47 [some (.ref 12)] [] G' (c93Q G l p) := by
      refine mg_go [8] 60 47 ms_93 ?_
      refine ⟨_, mg_Fe g4 rfl rfl, rfl, _, rfl, rfl, ih _ _ ⟨rfl, hB.s _ _ (by decide), (mg_sF_at _ _ _ _).trans (congrArg Value.int (mg_inc _)), hf.tr (mg_fr.sF _ _ _ rfl)⟩⟩
    refine mg_go [47, 60] 60 8 ms_93 ?_
    refine ⟨_, mg_Fe g4 rfl rfl, _, mg_Fe hB.2 rfl rfl, fun h => absurd h (mg_nle hlt (by omega)), fun _ => ?_⟩
    refine ⟨_, mg_Fe hB.1 rfl rfl, _, mg_Fe g4 rfl rfl, 2, 600, _, p + k, mg_Ab rfl (by decide), Or.inl rfl, mg_ixN (by omega), by omega, ?_⟩
    rw [b1]
    refine ⟨fun _ => st, fun h => ?_⟩
    have h : ¬ c = 32 := fun q => h (e1.mpr q)
    have h10 : c = 10 := by
      simp only [kSp, Bool.or_eq_true, beq_iff_eq] at hP
      omega
    refine ⟨_, mg_Fe hB.1 rfl rfl, _, mg_Fe g4 rfl rfl, 2, 600, _, p + k, mg_Ab rfl (by decide), Or.inl rfl, mg_ixN (by omega), by omega, ?_⟩
    rw [b1]
    exact ⟨fun h => absurd (e2.mpr h10) h, fun _ => st⟩
  · rintro L G' ⟨rfl, hB, g4, hf⟩
    have g4 : G'.2.2.2.2 12 4 = .int (Int32.ofNat (k_S l p)) := g4
    obtain ⟨-, -, hb⟩ := hf.n hI
    have fin : mg_wp (mg_KC scr t) mc_93 (d + 1) 60 [some (.ref 12)] [] G' (c93Q G l p) := by
      have f1 : cTf G' (mg_sF (mg_sF G' 12 2 (.int (Int32.ofNat (k_S l p)))) 12 7 (.long 0)) := (mg_fr.sF (p := fun a => a = 12) _ _ _ rfl).tr (mg_fr.sF _ _ _ rfl)
      refine mg_go [73] 60 60 ms_93 ?_
      refine ⟨_, mg_Fe g4 rfl rfl, rfl, _, rfl, rfl, rfl, _, rfl, rfl, ?_⟩
      exact mg_wp_mono (c93a (G := mg_sF (mg_sF G' 12 2 (.int (Int32.ofNat (k_S l p)))) 12 7 (.long 0)) d (f1.n (hf.n hI)) hp ((hB.s 2 _ (by decide)).s 7 _ (by decide)) ((mg_sF_ne _ _ (by decide)).trans (mg_sF_at _ _ _ _)) ((mg_sF_ne _ _ (by decide)).trans ((mg_sF_ne _ _ (by decide)).trans g4)) (mg_sF_at _ _ _ _)) (fun o q G2 w => w.m (hf.tr f1))
    refine mg_go [60] 60 8 ms_93 ?_
    refine ⟨_, mg_Fe g4 rfl rfl, _, mg_Fe hB.2 rfl rfl, fun _ => fin, fun h => ?_⟩
    have h := (mg_ltN (by omega) (by omega)).mp h
    have hc := List.getElem?_eq_getElem h
    obtain ⟨b1, b2'⟩ := hb _ _ hc
    have hP := k_run_end (P := kSp) (k_run kSp l p) p rfl _ hc
    obtain ⟨e1, e2⟩ := a_sx_sp _ b2'
    simp only [kSp, Bool.or_eq_false_iff, beq_eq_false_iff_ne] at hP
    refine ⟨_, mg_Fe hB.1 rfl rfl, _, mg_Fe g4 rfl rfl, 2, 600, _, k_S l p, mg_Ab rfl (by decide), Or.inl rfl, mg_ixN (by omega), by omega, ?_⟩
    rw [b1]
    refine ⟨fun h => absurd (e1.mp h) hP.1, fun _ => ?_⟩
    refine ⟨_, mg_Fe hB.1 rfl rfl, _, mg_Fe g4 rfl rfl, 2, 600, _, k_S l p, mg_Ab rfl (by decide), Or.inl rfl, mg_ixN (by omega), by omega, ?_⟩
    rw [b1]
    exact ⟨fun _ => fin, fun h => absurd (e2.mp h) hP.2⟩
theorem c92 (d : Nat) (hI : cIn G l) : mg_m (mg_KC scr t) (d + 3) 92 [.ref 12, .ref 1] G (c93Q G l 0) := by
  have f1 : cTf G (mg_sF (mg_sF (mg_sF G 12 0 (.ref 2)) 12 1 (.int (Int32.ofNat l.length))) 12 2 (.int (Int32.ofInt 0))) := ((mg_fr.sF (p := fun a => a = 12) _ _ _ rfl).tr (mg_fr.sF _ _ _ rfl)).tr (mg_fr.sF _ _ _ rfl)
  refine mg_me [] 60 my_92 ms_92 (Nat.le_of_ble_eq_true rfl) ?_
  repeat (first | refine ⟨_, mg_Fs rfl rfl, ?_⟩ | refine ⟨Or.inl rfl, ?_⟩ | refine ⟨Or.inr ⟨_, rfl⟩, ?_⟩ | refine ⟨fun _ => ?_, fun h => absurd h (by decide)⟩ | refine ⟨fun h => absurd h (by decide), fun _ => ?_⟩)
  refine ⟨rfl, _, rfl, rfl, ?_⟩
  repeat (first | refine ⟨_, mg_Fs rfl rfl, ?_⟩ | refine ⟨Or.inl rfl, ?_⟩ | refine ⟨Or.inr ⟨_, rfl⟩, ?_⟩ | refine ⟨fun _ => ?_, fun h => absurd h (by decide)⟩ | refine ⟨fun h => absurd h (by decide), fun _ => ?_⟩)
  refine ⟨_, mg_Fe hI.1 rfl rfl, rfl, _, rfl, rfl, rfl, _, rfl, rfl, ?_⟩
  repeat (first | refine ⟨_, mg_Fs rfl rfl, ?_⟩ | refine ⟨Or.inl rfl, ?_⟩ | refine ⟨Or.inr ⟨_, rfl⟩, ?_⟩ | refine ⟨fun _ => ?_, fun h => absurd h (by decide)⟩ | refine ⟨fun h => absurd h (by decide), fun _ => ?_⟩)
  refine mg_m_mono (c93 (p := 0) d (f1.n hI) (Nat.zero_le _) ⟨(mg_sF_ne _ _ (by decide)).trans ((mg_sF_ne _ _ (by decide)).trans (mg_sF_at _ _ _ _)), (mg_sF_ne _ _ (by decide)).trans (mg_sF_at _ _ _ _)⟩ (mg_sF_at _ _ _ _)) (by omega) ?_
  rintro o q G2 w
  obtain ⟨rfl, rfl, w3, w4, w5⟩ := w
  exact ⟨rfl, rfl, w3, w4, f1.tr w5⟩
end KC
