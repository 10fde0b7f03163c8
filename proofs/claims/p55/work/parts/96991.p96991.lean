theorem a_sx_sp : ∀ c, c < 256 → (a_sx c = (Int8.ofInt 32).toInt32 ↔ c = 32) ∧ (a_sx c = (Int8.ofInt 10).toInt32 ↔ c = 10) := by decide +kernel
theorem a_sx_dg : ∀ c, c < 256 → (a_sx c < (Int8.ofInt 48).toInt32 ∨ (Int8.ofInt 57).toInt32 < a_sx c ↔ kDg c = false) ∧ (kDg c = true → a_sx c = Int32.ofNat c) := by decide +kernel
theorem a_sx_l : ∀ c, c < 256 → (a_sx c < (Int8.ofInt 97).toInt32 ∨ (Int8.ofInt 122).toInt32 < a_sx c ↔ kLt c = false) ∧ (kLt c = true → (a_sx c).toInt64 = Int64.ofNat c) := by decide +kernel
/-- what the tokens are read from, and the token behind p -/
def ckB (G : mg_G) (l : List Nat) : Prop := G.2.2.2.2 12 0 = .ref 2 ∧ G.2.2.2.2 12 1 = .int (Int32.ofNat l.length)
def ck (G : mg_G) (l : List Nat) (p : Nat) : Prop := G.2.2.2.2 12 2 = .int (Int32.ofNat (k_E l p)) ∧ G.2.2.2.2 12 3 = .int (Int32.ofNat (k_K l p)) ∧ G.2.2.2.2 12 4 = .int (Int32.ofNat (k_S l p)) ∧ (k_K l p = 1 → G.2.2.2.2 12 7 = .long (a_pk (k_W l p))) ∧ (k_K l p = 2 → G.2.2.2.2 12 5 = .int (Int32.ofNat (k_N l p))) ∧ (k_K l p = 3 → ∀ c, l[k_S l p]? = some c → G.2.2.2.2 12 6 = .int (a_sx c))
section KC
variable {scr : Nat × (Nat → Int32)} {t : List mg_S} {G : mg_G} {S : a_S} {A : a_A} {l : List Nat} {p : Nat}
abbrev cTf (G G' : mg_G) : Prop := mg_fr (fun a => a = 12) G G'
theorem cTf.n {G G' : mg_G} (h : cTf G G') (hI : cIn G l) : cIn G' l := hI.fr h (by decide) (by decide)
def c93Q (G : mg_G) (l : List Nat) (p : Nat) : mg_Q := fun o q G' => o = .inl none ∧ q = 0 ∧ ckB G' l ∧ ck G' l p ∧ cTf G G'
theorem c93Q.m {G0 G : mg_G} (h : cTf G0 G) {o : Option Value ⊕ String} {q : Nat} {G' : mg_G} (w : c93Q G l p o q G') : c93Q G0 l p o q G' := ⟨w.1, w.2.1, w.2.2.1, w.2.2.2.1, h.tr w.2.2.2.2⟩
theorem ckB.s {G : mg_G} (h : ckB G l) (k : Nat) (v : Value) (hk : 2 ≤ k) : ckB (mg_sF G 12 k v) l := ⟨(mg_sF_ne _ _ (by omega)).trans h.1, (mg_sF_ne _ _ (by omega)).trans h.2⟩
/-- behind the digits, and of what is neither word nor number -/
theorem c93c (d : Nat) (hI : cIn G l) (hp : p ≤ l.length) (hB : ckB G l) (h2 : G.2.2.2.2 12 2 = .int (Int32.ofNat (k_S l p + k_b l p))) (h4 : G.2.2.2.2 12 4 = .int (Int32.ofNat (k_S l p))) (h5 : G.2.2.2.2 12 5 = .int (Int32.ofNat (k_num ((l.drop (k_S l p)).take (k_b l p))))) (ha : ¬ 0 < k_a l p) : mg_wp (mg_KC scr t) mc_93 (d + 1) 263 [some (.ref 12)] [] G (c93Q G l p) := by
  have hl600 := hI.2.1
  have hSle := k_S_le hp
  have hEle : k_S l p + k_b l p ≤ l.length := k_run_le kDg l _ hSle
  have e3 : Int32.ofNat (k_S l p + k_b l p) - Int32.ofNat (k_S l p) = Int32.ofNat (k_b l p) := by rw [Int32.ofNat_add, Int32.add_comm, Int32.add_sub_cancel]
  by_cases hb : 0 < k_b l p
  · have hE : k_E l p = k_S l p + k_b l p := (if_neg ha).trans (if_pos hb)
    have fin : ∀ y : Nat, k_K l p = y → y ≠ 1 → y ≠ 3 → c93Q G l p (.inl none) 0 (mg_sF G 12 3 (.int (Int32.ofNat y))) := fun y hy y1 y3 => ⟨rfl, rfl, hB.s _ _ (by decide), ⟨by rw [hE]; exact (mg_sF_ne _ _ (by decide)).trans h2, by rw [hy]; exact mg_sF_at _ _ _ _, (mg_sF_ne _ _ (by decide)).trans h4, fun q => absurd (hy.symm.trans q) y1, fun _ => (mg_sF_ne _ _ (by decide)).trans h5, fun q => absurd (hy.symm.trans q) y3⟩, mg_fr.sF _ _ _ rfl⟩
    refine mg_go [] 60 263 ms_93 ?_
    repeat (first | refine ⟨_, mg_Fs rfl rfl, ?_⟩ | refine ⟨Or.inl rfl, ?_⟩ | refine ⟨Or.inr ⟨_, rfl⟩, ?_⟩ | refine ⟨fun _ => ?_, fun h => absurd h (by decide)⟩ | refine ⟨fun h => absurd h (by decide), fun _ => ?_⟩)
    refine ⟨_, mg_Fe h2 rfl rfl, ?_⟩
    repeat (first | refine ⟨_, mg_Fs rfl rfl, ?_⟩ | refine ⟨Or.inl rfl, ?_⟩ | refine ⟨Or.inr ⟨_, rfl⟩, ?_⟩ | refine ⟨fun _ => ?_, fun h => absurd h (by decide)⟩ | refine ⟨fun h => absurd h (by decide), fun _ => ?_⟩)
    refine ⟨_, mg_Fe h4 rfl rfl, fun h => absurd h (mg_nle (by omega) (by omega)), fun _ => ?_⟩
    repeat (first | refine ⟨_, mg_Fs rfl rfl, ?_⟩ | refine ⟨Or.inl rfl, ?_⟩ | refine ⟨Or.inr ⟨_, rfl⟩, ?_⟩ | refine ⟨fun _ => ?_, fun h => absurd h (by decide)⟩ | refine ⟨fun h => absurd h (by decide), fun _ => ?_⟩)
    refine ⟨_, mg_Fe h2 rfl rfl, _, mg_Fe h4 rfl rfl, fun h => ?_, fun h => ?_⟩
    · have h : (Int32.ofInt 3) < Int32.ofNat (k_S l p + k_b l p) - Int32.ofNat (k_S l p) := h
      rw [e3] at h
      have h := (mg_ltN (a := 3) (by decide) (by omega)).mp h
      exact ⟨rfl, _, rfl, rfl, fin 4 (by unfold k_K; rw [if_neg ha, if_pos hb, if_neg (by omega)]) (by decide) (by decide)⟩
    · have h : Int32.ofNat (k_S l p + k_b l p) - Int32.ofNat (k_S l p) ≤ (Int32.ofInt 3) := h
      rw [e3] at h
      have h := (mg_leN (b := 3) (by omega) (by decide)).mp h
      exact ⟨rfl, _, rfl, rfl, fin 2 (by unfold k_K; rw [if_neg ha, if_pos hb, if_pos h]) (by decide) (by decide)⟩
  · have hb0 : k_b l p = 0 := by omega
    rw [hb0, Nat.add_zero] at h2
    refine mg_go [] 60 263 ms_93 ?_
    repeat (first | refine ⟨_, mg_Fs rfl rfl, ?_⟩ | refine ⟨Or.inl rfl, ?_⟩ | refine ⟨Or.inr ⟨_, rfl⟩, ?_⟩ | refine ⟨fun _ => ?_, fun h => absurd h (by decide)⟩ | refine ⟨fun h => absurd h (by decide), fun _ => ?_⟩)
    refine ⟨_, mg_Fe h2 rfl rfl, ?_⟩
    repeat (first | refine ⟨_, mg_Fs rfl rfl, ?_⟩ | refine ⟨Or.inl rfl, ?_⟩ | refine ⟨Or.inr ⟨_, rfl⟩, ?_⟩ | refine ⟨fun _ => ?_, fun h => absurd h (by decide)⟩ | refine ⟨fun h => absurd h (by decide), fun _ => ?_⟩)
    refine ⟨_, mg_Fe h4 rfl rfl, fun _ => ?_, fun h => absurd h (Int32.not_lt.mpr (Int32.le_refl _))⟩
    repeat (first | refine ⟨_, mg_Fs rfl rfl, ?_⟩ | refine ⟨Or.inl rfl, ?_⟩ | refine ⟨Or.inr ⟨_, rfl⟩, ?_⟩ | refine ⟨fun _ => ?_, fun h => absurd h (by decide)⟩ | refine ⟨fun h => absurd h (by decide), fun _ => ?_⟩)
    refine ⟨_, mg_Fe h4 rfl rfl, ?_⟩
    repeat (first | refine ⟨_, mg_Fs rfl rfl, ?_⟩ | refine ⟨Or.inl rfl, ?_⟩ | refine ⟨Or.inr ⟨_, rfl⟩, ?_⟩ | refine ⟨fun _ => ?_, fun h => absurd h (by decide)⟩ | refine ⟨fun h => absurd h (by decide), fun _ => ?_⟩)
    refine ⟨_, mg_Fe hB.2 rfl rfl, fun h => ?_, fun h => ?_⟩
    · have h := (mg_leN (by omega) (by omega)).mp h
      have hK : k_K l p = 0 := by unfold k_K; rw [if_neg ha, if_neg hb, if_neg (by omega)]
      have hE : k_E l p = k_S l p := by unfold k_E; rw [if_neg ha, if_neg hb, if_neg (by omega)]
      exact ⟨rfl, _, rfl, rfl, rfl, rfl, hB.s _ _ (by decide), ⟨by rw [hE]; exact (mg_sF_ne _ _ (by decide)).trans h2, by rw [hK]; exact mg_sF_at _ _ _ _, (mg_sF_ne _ _ (by decide)).trans h4, fun q => absurd (hK.symm.trans q) (by decide), fun q => absurd (hK.symm.trans q) (by decide), fun q => absurd (hK.symm.trans q) (by decide)⟩, mg_fr.sF _ _ _ rfl⟩
    · have h := (mg_ltN (by omega) (by omega)).mp h
      have hK : k_K l p = 3 := by unfold k_K; rw [if_neg ha, if_neg hb, if_pos h]
      have hE : k_E l p = k_S l p + 1 := by unfold k_E; rw [if_neg ha, if_neg hb, if_pos h]
      have hc := List.getElem?_eq_getElem h
      obtain ⟨b1, b2'⟩ := hI.2.2 _ _ hc
      have s3 := mg_sF_at G 12 3 (.int (Int32.ofInt 3))
      have s0 : (mg_sF G 12 3 (.int (Int32.ofInt 3))).2.2.2.2 12 0 = .ref 2 := (mg_sF_ne _ _ (by decide)).trans hB.1
      have s4 : (mg_sF G 12 3 (.int (Int32.ofInt 3))).2.2.2.2 12 4 = .int (Int32.ofNat (k_S l p)) := (mg_sF_ne _ _ (by decide)).trans h4
      have sB := hB.s 3 (.int (Int32.ofInt 3)) (by decide)
      have sf : cTf G (mg_sF G 12 3 (.int (Int32.ofInt 3))) := mg_fr.sF _ _ _ rfl
      have sb : (mg_sF G 12 3 (.int (Int32.ofInt 3))).1 2 (k_S l p) = a_sx l[k_S l p] := b1
      refine ⟨rfl, _, rfl, rfl, ?_⟩
      rw [show ((G.1, G.2.1, G.2.2.1, G.2.2.2.1, mg_u2 G.2.2.2.2 12 3 (.int (Int32.ofInt 3))) : mg_G) = mg_sF G 12 3 (.int (Int32.ofInt 3)) from rfl]
      generalize hG1 : mg_sF G 12 3 (.int (Int32.ofInt 3)) = G1 at s3 s0 s4 sB sf sb
      refine ⟨_, mg_Fe s0 rfl rfl, ?_⟩
      repeat (first | refine ⟨_, mg_Fs rfl rfl, ?_⟩ | refine ⟨Or.inl rfl, ?_⟩ | refine ⟨Or.inr ⟨_, rfl⟩, ?_⟩ | refine ⟨fun _ => ?_, fun h => absurd h (by decide)⟩ | refine ⟨fun h => absurd h (by decide), fun _ => ?_⟩)
      refine ⟨_, mg_Fe s4 rfl rfl, 2, 600, _, k_S l p, mg_Ab rfl (by decide), Or.inl rfl, mg_ixN (by omega), by omega, ?_⟩
      rw [sb]
      refine ⟨rfl, _, rfl, rfl, ?_⟩
      have u4 : (mg_sF G1 12 6 (.int (a_sx l[k_S l p]))).2.2.2.2 12 4 = .int (Int32.ofNat (k_S l p)) := (mg_sF_ne _ _ (by decide)).trans s4
      refine ⟨_, mg_Fe u4 rfl rfl, rfl, _, rfl, rfl, rfl, rfl, (sB.s 6 _ (by decide)).s 2 _ (by decide), ⟨?_, ?_, ?_, fun q => absurd (hK.symm.trans q) (by decide), fun q => absurd (hK.symm.trans q) (by decide), fun _ c hc2 => ?_⟩, (sf.tr (mg_fr.sF _ _ _ rfl)).tr (mg_fr.sF _ _ _ rfl)⟩
      · rw [hE]
        exact (mg_sF_at _ _ _ _).trans (congrArg Value.int (mg_inc _))
      · rw [hK]
        exact (mg_sF_ne _ _ (by decide)).trans ((mg_sF_ne _ _ (by decide)).trans s3)
      · exact (mg_sF_ne _ _ (by decide)).trans u4
      · rw [hc] at hc2
        rw [← Option.some.inj hc2]
        exact (mg_sF_ne _ _ (by decide)).trans (mg_sF_at _ _ _ _)
theorem c93b (d : Nat) (hI : cIn G l) (hp : p ≤ l.length) (hB : ckB G l) (h2 : G.2.2.2.2 12 2 = .int (Int32.ofNat (k_S l p))) (h4 : G.2.2.2.2 12 4 = .int (Int32.ofNat (k_S l p))) (h5 : G.2.2.2.2 12 5 = .int (Int32.ofNat 0)) (ha : ¬ 0 < k_a l p) : mg_wp (mg_KC scr t) mc_93 (d + 1) 187 [some (.ref 12)] [] G (c93Q G l p) := by
  have hl600 := hI.2.1
  have hSle := k_S_le hp
  have hEle : k_S l p + k_b l p ≤ l.length := k_run_le kDg l _ hSle
  refine mg_loop (k_b l p) (fun k L G' => L = [some (.ref 12)] ∧ ckB G' l ∧ G'.2.2.2.2 12 2 = .int (Int32.ofNat (k_S l p + k)) ∧ G'.2.2.2.2 12 4 = .int (Int32.ofNat (k_S l p)) ∧ G'.2.2.2.2 12 5 = .int (Int32.ofNat (k_num ((l.drop (k_S l p)).take k))) ∧ cTf G G') ?_ ?_ _ _ ⟨rfl, hB, h2, h4, by rw [List.take_zero]; exact h5, mg_fr.rf _ _⟩
  · rintro k L G' hk ⟨rfl, hB, g2, g4, g5, hf⟩ ih
    obtain ⟨c, hc, hP, hts⟩ := k_take_s hk
    have hlt := (List.getElem?_eq_some_iff.mp hc).1
    obtain ⟨-, -, hb⟩ := hf.n hI
    obtain ⟨b1, b2'⟩ := hb _ _ hc
    obtain ⟨e1, e2⟩ := a_sx_dg c b2'
    have e2 := e2 hP
    have hq : ¬ (a_sx c < (Int8.ofInt 48).toInt32 ∨ (Int8.ofInt 57).toInt32 < a_sx c) := fun q => by rw [e1.mp q] at hP; cases hP
    have h48 : 48 ≤ c := by
      simp only [kDg, Bool.and_eq_true, decide_eq_true_eq] at hP
      exact hP.1
    refine mg_go [187] 60 187 ms_93 ?_
    repeat (first | refine ⟨_, mg_Fs rfl rfl, ?_⟩ | refine ⟨Or.inl rfl, ?_⟩ | refine ⟨Or.inr ⟨_, rfl⟩, ?_⟩ | refine ⟨fun _ => ?_, fun h => absurd h (by decide)⟩ | refine ⟨fun h => absurd h (by decide), fun _ => ?_⟩)
    refine ⟨_, mg_Fe g2 rfl rfl, ?_⟩
    repeat (first | refine ⟨_, mg_Fs rfl rfl, ?_⟩ | refine ⟨Or.inl rfl, ?_⟩ | refine ⟨Or.inr ⟨_, rfl⟩, ?_⟩ | refine ⟨fun _ => ?_, fun h => absurd h (by decide)⟩ | refine ⟨fun h => absurd h (by decide), fun _ => ?_⟩)
    refine ⟨_, mg_Fe hB.2 rfl rfl, fun h => absurd h (mg_nle hlt (by omega)), fun _ => ?_⟩
    refine ⟨_, mg_Fe hB.1 rfl rfl, _, mg_Fe g2 rfl rfl, 2, 600, _, k_S l p + k, mg_Ab rfl (by decide), Or.inl rfl, mg_ixN (by omega), by omega, ?_⟩
    rw [b1]
    refine ⟨fun h => absurd (Or.inl h) hq, fun _ => ?_⟩
    refine ⟨_, mg_Fe hB.1 rfl rfl, _, mg_Fe g2 rfl rfl, 2, 600, _, k_S l p + k, mg_Ab rfl (by decide), Or.inl rfl, mg_ixN (by omega), by omega, ?_⟩
    rw [b1]
    refine ⟨fun h => absurd (Or.inr h) hq, fun _ => ?_⟩
    refine ⟨_, mg_Fe g5 rfl rfl, ?_⟩
    refine ⟨_, mg_Fe hB.1 rfl rfl, _, mg_Fe g2 rfl rfl, 2, 600, _, k_S l p + k, mg_Ab rfl (by decide), Or.inl rfl, mg_ixN (by omega), by omega, ?_⟩
    rw [b1, e2]
    have en : Int32.ofNat (k_num ((l.drop (k_S l p)).take k)) * (Int8.ofInt 10).toInt32 + (Int32.ofNat c - (Int8.ofInt 48).toInt32) = Int32.ofNat (k_num ((l.drop (k_S l p)).take (k + 1))) := by
      rw [hts, k_num_s]
      have e4 : Int32.ofNat c = Int32.ofNat (c - 48) + (Int8.ofInt 48).toInt32 := by
        rw [show (Int8.ofInt 48).toInt32 = Int32.ofNat 48 from rfl, ← Int32.ofNat_add, Nat.sub_add_cancel h48]
      rw [e4, Int32.add_sub_cancel, Int32.ofNat_add, Int32.ofNat_mul]
      rfl
    refine ⟨rfl, _, rfl, rfl, ?_⟩
    have u2 : (mg_sF G' 12 5 (.int (Int32.ofNat (k_num ((l.drop (k_S l p)).take k)) * (Int8.ofInt 10).toInt32 + (Int32.ofNat c - (Int8.ofInt 48).toInt32)))).2.2.2.2 12 2 = .int (Int32.ofNat (k_S l p + k)) := (mg_sF_ne _ _ (by decide)).trans g2
    refine ⟨_, mg_Fe u2 rfl rfl, rfl, _, rfl, rfl, ih _ _ ⟨rfl, (hB.s 5 _ (by decide)).s 2 _ (by decide), (mg_sF_at _ _ _ _).trans (congrArg Value.int (mg_inc _)), (mg_sF_ne _ _ (by decide)).trans ((mg_sF_ne _ _ (by decide)).trans g4), (mg_sF_ne _ _ (by decide)).trans ((mg_sF_at _ _ _ _).trans (congrArg Value.int en)), (hf.tr (mg_fr.sF _ _ _ rfl)).tr (mg_fr.sF _ _ _ rfl)⟩⟩
  · rintro L G' ⟨rfl, hB, g2, g4, g5, hf⟩
    have fin : mg_wp (mg_KC scr t) mc_93 (d + 1) 263 [some (.ref 12)] [] G' (c93Q G l p) := mg_wp_mono (c93c d (hf.n hI) hp hB g2 g4 g5 ha) (fun o q G2 w => w.m hf)
    obtain ⟨-, -, hb⟩ := hf.n hI
    refine mg_go [263] 60 187 ms_93 ?_
    repeat (first | refine ⟨_, mg_Fs rfl rfl, ?_⟩ | refine ⟨Or.inl rfl, ?_⟩ | refine ⟨Or.inr ⟨_, rfl⟩, ?_⟩ | refine ⟨fun _ => ?_, fun h => absurd h (by decide)⟩ | refine ⟨fun h => absurd h (by decide), fun _ => ?_⟩)
    refine ⟨_, mg_Fe g2 rfl rfl, ?_⟩
    repeat (first | refine ⟨_, mg_Fs rfl rfl, ?_⟩ | refine ⟨Or.inl rfl, ?_⟩ | refine ⟨Or.inr ⟨_, rfl⟩, ?_⟩ | refine ⟨fun _ => ?_, fun h => absurd h (by decide)⟩ | refine ⟨fun h => absurd h (by decide), fun _ => ?_⟩)
    refine ⟨_, mg_Fe hB.2 rfl rfl, fun _ => fin, fun h => ?_⟩
    have h := (mg_ltN (by omega) (by omega)).mp h
    have hc := List.getElem?_eq_getElem h
    obtain ⟨b1, b2'⟩ := hb _ _ hc
    have hP := k_run_end (P := kDg) (k_b l p) (k_S l p) rfl _ hc
    have hq := (a_sx_dg _ b2').1.mpr hP
    refine ⟨_, mg_Fe hB.1 rfl rfl, _, mg_Fe g2 rfl rfl, 2, 600, _, k_S l p + k_b l p, mg_Ab rfl (by decide), Or.inl rfl, mg_ixN (by omega), by omega, ?_⟩
    rw [b1]
    refine ⟨fun _ => fin, fun h1 => ?_⟩
    refine ⟨_, mg_Fe hB.1 rfl rfl, _, mg_Fe g2 rfl rfl, 2, 600, _, k_S l p + k_b l p, mg_Ab rfl (by decide), Or.inl rfl, mg_ixN (by omega), by omega, ?_⟩
    rw [b1]
    exact ⟨fun _ => fin, fun h2 => absurd hq (fun q => q.elim (fun q => absurd q (Int32.not_lt.mpr h1)) (fun q => absurd q (Int32.not_lt.mpr h2)))⟩
end KC
