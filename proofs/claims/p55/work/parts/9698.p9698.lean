theorem a_nar2 : ∀ c, c < 256 → vp_nar .byte (Int32.ofNat c).toInt8.toInt32 = a_sx c := by decide +kernel
theorem a_t8 (x : Int32) : x.toInt8 = (x &&& 255).toInt8 := by
  apply Int8.toBitVec_inj.mp
  show x.toBitVec.signExtend 8 = (x.toBitVec &&& 255#32).signExtend 8
  rw [BitVec.signExtend_eq_setWidth_of_le _ (by decide), BitVec.signExtend_eq_setWidth_of_le _ (by decide)]
  apply BitVec.eq_of_toNat_eq
  rw [BitVec.toNat_setWidth, BitVec.toNat_setWidth, BitVec.toNat_and, show (255#32).toNat = 2 ^ 8 - 1 from rfl, Nat.and_two_pow_sub_one_eq_mod]
  omega
theorem a_nar3 (x : Int32) : vp_nar .byte x.toInt8.toInt32 = a_sx (x &&& 255).toNatClampNeg := by
  have h := a_255 x
  rw [a_t8]
  have e := a_nar2 _ h.2
  rw [← h.1] at e
  exact e
section KC
variable {scr : Nat × (Nat → Int32)} {t : List mg_S} {G : mg_G} {S : a_S} {A : a_A} {l : List Nat}
/-- the input is longer -/
def cIQ (G : mg_G) (l : List Nat) : mg_Q := fun o q G' => o = .inl none ∧ q = 0 ∧ cIn G' l ∧ mg_fr (fun a => a = 1 ∨ a = 2) G G'
theorem cIQ.s {K : mg_K} {d d' y : Nat} {As : List Value} {G0 G : mg_G} {l' : List Nat} (h : mg_m K d y As G (cIQ G l')) (hc : mg_fr (fun a => a = 1 ∨ a = 2) G0 G) (hd : d ≤ d') {Q : mg_Q} (hQ : ∀ G', cIn G' l' → mg_fr (fun a => a = 1 ∨ a = 2) G0 G' → Q (.inl none) 0 G') : mg_m K d' y As G Q := by
  refine mg_m_mono h hd ?_
  rintro o q G' ⟨rfl, rfl, h1, h2⟩
  exact hQ G' h1 (hc.tr h2)
theorem cT.inp {G G' : mg_G} {S : a_S} (h : cT G S) (hc : mg_fr (fun a => a = 1 ∨ a = 2) G G') {w : List Nat} (hw : cIn G' w) : cT G' (sInS S w) := by
  obtain ⟨h1, h2, h3, h4, h5, h6, h7, h8⟩ := h
  have e3 := (hc 3 (by decide)).2.2.2.2
  exact ⟨h1.fr hc (fun a ha => by unfold kQ at ha; omega), h2, h3.fr hc (fun a ha => by omega), h4.fr hc (fun a ha => by omega), hw, ⟨by rw [e3]; exact h6.1, by rw [e3]; exact h6.2⟩, h7.fr hc (by decide) (by decide), h8.fr hc (by decide) (fun a ha => by unfold kG at ha; omega)⟩
theorem frI {G G' : mg_G} (h : mg_fr (fun a => a = 1 ∨ a = 2) G G') : cFr148 G G' := h.mono (fun a ha => by show a < 148; omega)
theorem c33 (d : Nat) (hI : cIn G l) (hl : l.length < 600) (x : Int32) : mg_m (mg_KC scr t) (d + 1) 33 [.ref 1, .int x] G (cIQ G (l ++ [(x &&& 255).toNatClampNeg])) := by
  obtain ⟨h1, h2, h3⟩ := hI
  refine mg_me [] 60 my_33 ms_33 (Nat.le_of_ble_eq_true rfl) ?_
  repeat (first | refine ⟨_, mg_Fs rfl rfl, ?_⟩ | refine ⟨Or.inl rfl, ?_⟩ | refine ⟨Or.inr ⟨_, rfl⟩, ?_⟩ | refine ⟨fun _ => ?_, fun h => absurd h (by decide)⟩ | refine ⟨fun h => absurd h (by decide), fun _ => ?_⟩)
  refine ⟨_, mg_Fe h1 rfl rfl, fun h => absurd h (mg_nle (b := 600) hl (by decide)), fun _ => ?_⟩
  repeat (first | refine ⟨_, mg_Fs rfl rfl, ?_⟩ | refine ⟨Or.inl rfl, ?_⟩ | refine ⟨Or.inr ⟨_, rfl⟩, ?_⟩ | refine ⟨fun _ => ?_, fun h => absurd h (by decide)⟩ | refine ⟨fun h => absurd h (by decide), fun _ => ?_⟩)
  refine ⟨_, mg_Fe h1 rfl rfl, 2, 600, l.length, rfl, mg_ixN (by omega), by omega, Or.inl rfl, ?_⟩
  refine ⟨_, mg_Fe h1 rfl rfl, rfl, _, rfl, rfl, rfl, rfl, ⟨?_, by rw [List.length_append]; exact hl, fun i c hi => ?_⟩, (mg_fr.sI _ _ _ (Or.inr rfl)).tr (mg_fr.sF _ _ _ (Or.inl rfl))⟩
  · refine (mg_sF_at _ _ _ _).trans ?_
    show Value.int (Int32.ofNat l.length + Int32.ofInt 1) = _
    rw [mg_inc, List.length_append]
    rfl
  · show mg_u2 G.1 2 l.length (vp_nar .byte x.toInt8.toInt32) 2 i = _ ∧ _
    rw [mg_u2_same, a_nar3]
    by_cases q : i = l.length
    · subst q
      rw [List.getElem?_append_right (Nat.le_refl _), Nat.sub_self] at hi
      have := Option.some.inj hi
      subst this
      exact ⟨mg_u_eq _ _ _, (a_255 x).2⟩
    · have hl2 := (List.getElem?_eq_some_iff.mp hi).1
      rw [List.length_append] at hl2
      have hl2 : i < l.length + 1 := hl2
      rw [List.getElem?_append_left (by omega)] at hi
      rw [mg_u_ne _ _ q]
      exact h3 i c hi
theorem c32 (d : Nat) (hI : cIn G l) (hl : l.length + 4 ≤ 600) (x : Int32) : mg_m (mg_KC scr t) (d + 2) 32 [.ref 1, .int x] G (cIQ G (l ++ a_by x)) := by
  have e : l ++ a_by x = l ++ [((x >>> (Int32.ofInt 24 &&& 31)) &&& 255).toNatClampNeg] ++ [((x >>> (Int32.ofInt 16 &&& 31)) &&& 255).toNatClampNeg] ++ [((x >>> (Int32.ofInt 8 &&& 31)) &&& 255).toNatClampNeg] ++ [(x &&& 255).toNatClampNeg] := by
    rw [show x &&& 255 = (x >>> (Int32.ofInt 0 &&& 31)) &&& 255 from by rw [show (Int32.ofInt 0 &&& 31 : Int32) = 0 from by decide, Int32.shiftRight_zero], List.append_assoc, List.append_assoc, List.append_assoc]
    rfl
  rw [e]
  refine mg_me [] 60 my_32 ms_32 (Nat.le_of_ble_eq_true rfl) ?_
  repeat (first | refine ⟨_, mg_Fs rfl rfl, ?_⟩ | refine ⟨Or.inl rfl, ?_⟩ | refine ⟨Or.inr ⟨_, rfl⟩, ?_⟩ | refine ⟨fun _ => ?_, fun h => absurd h (by decide)⟩ | refine ⟨fun h => absurd h (by decide), fun _ => ?_⟩)
  refine cIQ.s (c33 d hI (by omega) _) (mg_fr.rf _ _) (by omega) fun G1 h1 hc1 => ?_
  repeat (first | refine ⟨_, mg_Fs rfl rfl, ?_⟩ | refine ⟨Or.inl rfl, ?_⟩ | refine ⟨Or.inr ⟨_, rfl⟩, ?_⟩ | refine ⟨fun _ => ?_, fun h => absurd h (by decide)⟩ | refine ⟨fun h => absurd h (by decide), fun _ => ?_⟩)
  refine cIQ.s (c33 d h1 (by simp only [List.length_append, List.length_cons, List.length_nil]; omega) _) hc1 (by omega) fun G2 h2 hc2 => ?_
  repeat (first | refine ⟨_, mg_Fs rfl rfl, ?_⟩ | refine ⟨Or.inl rfl, ?_⟩ | refine ⟨Or.inr ⟨_, rfl⟩, ?_⟩ | refine ⟨fun _ => ?_, fun h => absurd h (by decide)⟩ | refine ⟨fun h => absurd h (by decide), fun _ => ?_⟩)
  refine cIQ.s (c33 d h2 (by simp only [List.length_append, List.length_cons, List.length_nil]; omega) _) hc2 (by omega) fun G3 h3 hc3 => ?_
  repeat (first | refine ⟨_, mg_Fs rfl rfl, ?_⟩ | refine ⟨Or.inl rfl, ?_⟩ | refine ⟨Or.inr ⟨_, rfl⟩, ?_⟩ | refine ⟨fun _ => ?_, fun h => absurd h (by decide)⟩ | refine ⟨fun h => absurd h (by decide), fun _ => ?_⟩)
  refine cIQ.s (c33 d h3 (by simp only [List.length_append, List.length_cons, List.length_nil]; omega) _) hc3 (by omega) fun G4 h4 hc4 => ?_
  exact ⟨rfl, rfl, h4, hc4⟩
theorem c104 (d : Nat) (hT : cT G S) (a b c e f : Int32) : mg_m (mg_KC scr t) (d + 20) 104 [.ref 0, .int a, .int b, .int c, .int e, .int f] G (cAp G (ex1 xS) (p206 S a b c e f)) := by
  have hI := hT.2.2.2.2.1
  obtain ⟨h1, h2, h3⟩ := id hI
  have e20 : Int32.ofNat (sIn S).length + (Int8.ofInt 20).toInt32 = Int32.ofNat ((sIn S).length + 20) := mg_addN _ 20
  have lb : ∀ x, (a_by x).length = 4 := fun x => rfl
  unfold p206 cAp
  by_cases hl : (sIn S).length + 20 ≤ 600
  · rw [if_pos hl]
    refine mg_me [] 90 my_104 ms_104 (Nat.le_of_ble_eq_true rfl) ?_
    repeat (first | refine ⟨_, mg_Fs rfl rfl, ?_⟩ | refine ⟨Or.inl rfl, ?_⟩ | refine ⟨Or.inr ⟨_, rfl⟩, ?_⟩ | refine ⟨fun _ => ?_, fun h => absurd h (by decide)⟩ | refine ⟨fun h => absurd h (by decide), fun _ => ?_⟩)
    refine ⟨_, mg_Fe h1 rfl rfl, fun _ => ?_, fun h => absurd h (show ¬ (Int16.ofInt 600).toInt32 < Int32.ofNat (sIn S).length + (Int8.ofInt 20).toInt32 from by rw [e20]; exact mg_nlt (b := 600) hl (by decide))⟩
    repeat (first | refine ⟨_, mg_Fs rfl rfl, ?_⟩ | refine ⟨Or.inl rfl, ?_⟩ | refine ⟨Or.inr ⟨_, rfl⟩, ?_⟩ | refine ⟨fun _ => ?_, fun h => absurd h (by decide)⟩ | refine ⟨fun h => absurd h (by decide), fun _ => ?_⟩)
    refine cIQ.s (c32 d hI (by omega) a) (mg_fr.rf _ _) (by omega) fun G1 h1 hc1 => ?_
    repeat (first | refine ⟨_, mg_Fs rfl rfl, ?_⟩ | refine ⟨Or.inl rfl, ?_⟩ | refine ⟨Or.inr ⟨_, rfl⟩, ?_⟩ | refine ⟨fun _ => ?_, fun h => absurd h (by decide)⟩ | refine ⟨fun h => absurd h (by decide), fun _ => ?_⟩)
    refine cIQ.s (c32 d h1 (by simp only [List.length_append, lb]; omega) b) hc1 (by omega) fun G2 h2 hc2 => ?_
    repeat (first | refine ⟨_, mg_Fs rfl rfl, ?_⟩ | refine ⟨Or.inl rfl, ?_⟩ | refine ⟨Or.inr ⟨_, rfl⟩, ?_⟩ | refine ⟨fun _ => ?_, fun h => absurd h (by decide)⟩ | refine ⟨fun h => absurd h (by decide), fun _ => ?_⟩)
    refine cIQ.s (c32 d h2 (by simp only [List.length_append, lb]; omega) c) hc2 (by omega) fun G3 h3 hc3 => ?_
    repeat (first | refine ⟨_, mg_Fs rfl rfl, ?_⟩ | refine ⟨Or.inl rfl, ?_⟩ | refine ⟨Or.inr ⟨_, rfl⟩, ?_⟩ | refine ⟨fun _ => ?_, fun h => absurd h (by decide)⟩ | refine ⟨fun h => absurd h (by decide), fun _ => ?_⟩)
    refine cIQ.s (c32 d h3 (by simp only [List.length_append, lb]; omega) e) hc3 (by omega) fun G4 h4 hc4 => ?_
    repeat (first | refine ⟨_, mg_Fs rfl rfl, ?_⟩ | refine ⟨Or.inl rfl, ?_⟩ | refine ⟨Or.inr ⟨_, rfl⟩, ?_⟩ | refine ⟨fun _ => ?_, fun h => absurd h (by decide)⟩ | refine ⟨fun h => absurd h (by decide), fun _ => ?_⟩)
    refine cIQ.s (c32 d h4 (by simp only [List.length_append, lb]; omega) f) hc4 (by omega) fun G5 h5 hc5 => ?_
    repeat (first | refine ⟨_, mg_Fs rfl rfl, ?_⟩ | refine ⟨Or.inl rfl, ?_⟩ | refine ⟨Or.inr ⟨_, rfl⟩, ?_⟩ | refine ⟨fun _ => ?_, fun h => absurd h (by decide)⟩ | refine ⟨fun h => absurd h (by decide), fun _ => ?_⟩)
    refine ⟨_, mg_Fe h5.1 rfl rfl, Or.inl rfl, cA_v (hT.inp hc5 h5) (frI hc5) ?_⟩
    congr 1
    simp only [List.length_append, lb]
  · rw [if_neg hl]
    refine mg_me [] 90 my_104 ms_104 (Nat.le_of_ble_eq_true rfl) ?_
    repeat (first | refine ⟨_, mg_Fs rfl rfl, ?_⟩ | refine ⟨Or.inl rfl, ?_⟩ | refine ⟨Or.inr ⟨_, rfl⟩, ?_⟩ | refine ⟨fun _ => ?_, fun h => absurd h (by decide)⟩ | refine ⟨fun h => absurd h (by decide), fun _ => ?_⟩)
    refine ⟨_, mg_Fe h1 rfl rfl, fun h => absurd h (show ¬ Int32.ofNat (sIn S).length + (Int8.ofInt 20).toInt32 ≤ (Int16.ofInt 600).toInt32 from by rw [e20]; exact fun q => hl ((mg_leN (b := 600) (by omega) (by decide)).mp q)), fun _ => ⟨Nat.le_of_ble_eq_true rfl, cA_x hT (by decide) rfl⟩⟩
theorem c105 (d : Nat) (hT : cT G S) (n : Int32) : mg_m (mg_KC scr t) (d + 20) 105 [.ref 0, .int n] G (cAp G (ex1 xA) (p207 S n)) := by
  obtain ⟨h1, h2, h3⟩ := id hT.2.2.2.2.1
  unfold p207 cAp
  cases hn : vi n ((sIn S).length + 1) with
  | none =>
    have hn := vi_n hn (by omega)
    refine mg_me [] 60 my_105 ms_105 (Nat.le_of_ble_eq_true rfl) ?_
    refine ⟨fun _ => ⟨Nat.le_of_ble_eq_true rfl, cA_x hT (by decide) rfl⟩, fun h0 => ?_⟩
    repeat (first | refine ⟨_, mg_Fs rfl rfl, ?_⟩ | refine ⟨Or.inl rfl, ?_⟩ | refine ⟨Or.inr ⟨_, rfl⟩, ?_⟩ | refine ⟨fun _ => ?_, fun h => absurd h (by decide)⟩ | refine ⟨fun h => absurd h (by decide), fun _ => ?_⟩)
    refine ⟨_, mg_Fe h1 rfl rfl, fun h => ?_, fun _ => ⟨Nat.le_of_ble_eq_true rfl, cA_x hT (by decide) rfl⟩⟩
    rcases hn with q | q
    · exact absurd q (Int32.not_lt.mpr h0)
    · exact absurd (Int32.le_trans q h) (mg_nle (by omega) (by omega))
  | some k =>
    obtain ⟨rfl, hk⟩ := vi_s hn
    refine mg_me [] 60 my_105 ms_105 (Nat.le_of_ble_eq_true rfl) ?_
    refine ⟨fun h => absurd h (mg_nl0 (by omega)), fun _ => ?_⟩
    repeat (first | refine ⟨_, mg_Fs rfl rfl, ?_⟩ | refine ⟨Or.inl rfl, ?_⟩ | refine ⟨Or.inr ⟨_, rfl⟩, ?_⟩ | refine ⟨fun _ => ?_, fun h => absurd h (by decide)⟩ | refine ⟨fun h => absurd h (by decide), fun _ => ?_⟩)
    refine ⟨_, mg_Fe h1 rfl rfl, fun _ => ?_, fun h => absurd h (mg_nlt (by omega) (by omega))⟩
    repeat (first | refine ⟨_, mg_Fs rfl rfl, ?_⟩ | refine ⟨Or.inl rfl, ?_⟩ | refine ⟨Or.inr ⟨_, rfl⟩, ?_⟩ | refine ⟨fun _ => ?_, fun h => absurd h (by decide)⟩ | refine ⟨fun h => absurd h (by decide), fun _ => ?_⟩)
    have f1 : mg_fr (fun a => a = 1 ∨ a = 2) G (mg_sF G 1 1 (.int (Int32.ofNat k))) := mg_fr.sF _ _ _ (Or.inl rfl)
    refine ⟨rfl, _, rfl, rfl, Or.inl rfl, cA_v (hT.inp f1 ⟨?_, by rw [List.length_take]; omega, fun i c hi => ?_⟩) (frI f1) rfl⟩
    · rw [List.length_take, Nat.min_eq_left (by omega)]
      exact mg_sF_at _ _ _ _
    · rw [List.getElem?_take] at hi
      split at hi
      · exact h3 i c hi
      · cases hi
end KC
