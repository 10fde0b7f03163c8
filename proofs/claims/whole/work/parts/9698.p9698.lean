/-! CLASS: the input -/
theorem a_nar2 : ∀ c, c < 256 → vp_nar .byte (Int32.ofNat c).toInt8.toInt32 = a_sx c := by decide +kernel
theorem a_t8 (x : Int32) : x.toInt8 = (x &&& 255).toInt8 := by
  apply Int8.toBitVec_inj.mp
  show x.toBitVec.signExtend 8 = (x.toBitVec &&& 255#32).signExtend 8
  rw [BitVec.signExtend_eq_setWidth_of_le _ (by decide), BitVec.signExtend_eq_setWidth_of_le _ (by decide)]
  apply BitVec.eq_of_toNat_eq
  rw [BitVec.toNat_setWidth, BitVec.toNat_setWidth, BitVec.toNat_and, show (255#32).toNat = 2 ^ 8 - 1 from rfl, Nat.and_two_pow_sub_one_eq_mod]
  omega
theorem a_nar3 (x : Int32) : vp_nar .byte x.toInt8.toInt32 = a_sx (x &&& 255).toNatClampNeg := by
  have h := a_255 x
  rw [a_t8]
  have e := a_nar2 _ h.2
  rw [← h.1] at e
  exact e
theorem a_sx_lt : ∀ c, c < 256 → (a_sx c < (Int8.ofInt 97).toInt32 ∨ (Int8.ofInt 122).toInt32 < a_sx c ↔ ¬ (97 ≤ c ∧ c ≤ 122)) ∧ (97 ≤ c ∧ c ≤ 122 → a_sx c = Int32.ofNat c ∧ (a_sx c).toInt64 = Int64.ofNat c) := by decide +kernel
/-- the name that the input holds, or 0 -/
def a_nmI (l : List Nat) : Int64 := if l.length ≤ 7 ∧ l.all (fun c => decide (97 ≤ c ∧ c ≤ 122)) then a_pk l else 0
theorem a_nmI_1 {l : List Nat} (h : a_nm7 l) : a_nmI l = a_pk l := if_pos ⟨h.2, List.all_eq_true.mpr (fun c hc => decide_eq_true (h.1 c hc))⟩
theorem a_nmI_0 {l : List Nat} (h : ¬ a_nm7 l) : a_nmI l = 0 := if_neg (fun q => h ⟨fun c hc => of_decide_eq_true (List.all_eq_true.mp q.2 c hc), q.1⟩)
section KC
variable {scr : Nat × (Nat → Int32)} {t : List mg_S} {G : mg_G} {S : a_S} {A : a_A} {l : List Nat}
/-- the input is longer -/
def cIQ (G : mg_G) (l : List Nat) : mg_Q := fun o q G' => o = .inl none ∧ q = 0 ∧ cIn G' l ∧ mg_fr (fun a => a = 1 ∨ a = 2) G G'
theorem cIQ.s {K : mg_K} {d d' y : Nat} {As : List Value} {G0 G : mg_G} {l' : List Nat} (h : mg_m K d y As G (cIQ G l')) (hc : mg_fr (fun a => a = 1 ∨ a = 2) G0 G) (hd : d ≤ d') {Q : mg_Q} (hQ : ∀ G', cIn G' l' → mg_fr (fun a => a = 1 ∨ a = 2) G0 G' → Q (.inl none) 0 G') : mg_m K d' y As G Q := by
  refine mg_m_mono h hd ?_
  rintro o q G' ⟨rfl, rfl, h1, h2⟩
  exact hQ G' h1 (hc.tr h2)
theorem cT.inp {G G' : mg_G} {S : a_S} (h : cT G S) (hc : mg_fr (fun a => a = 1 ∨ a = 2) G G') {w : List Nat} (hw : cIn G' w) : cT G' (sInS S w) := by
  obtain ⟨h1, h2, h3, h4, h5, h6, h7, h8⟩ := h
  have e3 := (hc 3 (by decide)).2.2.2.2
  exact ⟨h1.fr hc (fun a ha => by unfold kQ at ha; omega), h2, h3.fr hc (fun a ha => by omega), h4.fr hc (fun a ha => by omega), hw, ⟨by rw [e3]; exact h6.1, by rw [e3]; exact h6.2⟩, h7.fr hc (by decide) (by decide), h8.fr hc (by decide) (fun a ha => by unfold kG at ha; omega)⟩
theorem frI {G G' : mg_G} (h : mg_fr (fun a => a = 1 ∨ a = 2) G G') : cFr148 G G' := h.mono (fun a ha => by show a < 148; omega)
theorem c33 (d : Nat) (hI : cIn G l) (hl : l.length < 600) (x : Int32) : mg_m (mg_KC scr t) (d + 1) 33 [.ref 1, .int x] G (cIQ G (l ++ [(x &&& 255).toNatClampNeg])) := by
  obtain ⟨h1, h2, h3⟩ := hI
  refine mg_me [] 60 my_33 ms_33 (Nat.le_of_ble_eq_true rfl) ?_
  repeat (first | refine ⟨_, mg_Fs rfl rfl, ?_⟩ | refine ⟨Or.inl rfl, ?_⟩ | refine ⟨Or.inr ⟨_, rfl⟩, ?_⟩ | refine ⟨fun _ => ?_, fun h => absurd h (by decide)⟩ | refine ⟨fun h => absurd h (by decide), fun _ => ?_⟩)
  refine ⟨_, mg_Fe h1 rfl rfl, fun h => absurd h (mg_nle (b := 600) hl (by decide)), fun _ => ?_⟩
  repeat (first | refine ⟨_, mg_Fs rfl rfl, ?_⟩ | refine ⟨Or.inl rfl, ?_⟩ | refine ⟨Or.inr ⟨_, rfl⟩, ?_⟩ | refine ⟨fun _ => ?_, fun h => absurd h (by decide)⟩ | refine ⟨fun h => absurd h (by decide), fun _ => ?_⟩)
  refine ⟨_, mg_Fe h1 rfl rfl, 2, 600, l.length, rfl, mg_ixN (by omega), by omega, Or.inl rfl, ?_⟩
  refine ⟨_, mg_Fe h1 rfl rfl, rfl, _, rfl, rfl, rfl, rfl, ⟨?_, by rw [List.length_append]; exact hl, fun i c hi => ?_⟩, (mg_fr.sI _ _ _ (Or.inr rfl)).tr (mg_fr.sF _ _ _ (Or.inl rfl))⟩
  · refine (mg_sF_at _ _ _ _).trans ?_
    show Value.int (Int32.ofNat l.length + Int32.ofInt 1) = _
    rw [mg_inc, List.length_append]
    rfl
  · show mg_u2 G.1 2 l.length (vp_nar .byte x.toInt8.toInt32) 2 i = _ ∧ _
    rw [mg_u2_same, a_nar3]
    by_cases q : i = l.length
    · subst q
      rw [List.getElem?_append_right (Nat.le_refl _), Nat.sub_self] at hi
      have := Option.some.inj hi
      subst this
      exact ⟨mg_u_eq _ _ _, (a_255 x).2⟩
    · have hl2 := (List.getElem?_eq_some_iff.mp hi).1
      rw [List.length_append] at hl2
      have hl2 : i < l.length + 1 := hl2
      rw [List.getElem?_append_left (by omega)] at hi
      rw [mg_u_ne _ _ q]
      exact h3 i c hi
theorem c32 (d : Nat) (hI : cIn G l) (hl : l.length + 4 ≤ 600) (x : Int32) : mg_m (mg_KC scr t) (d + 2) 32 [.ref 1, .int x] G (cIQ G (l ++ a_by x)) := by
  have e : l ++ a_by x = l ++ [((x >>> (Int32.ofInt 24 &&& 31)) &&& 255).toNatClampNeg] ++ [((x >>> (Int32.ofInt 16 &&& 31)) &&& 255).toNatClampNeg] ++ [((x >>> (Int32.ofInt 8 &&& 31)) &&& 255).toNatClampNeg] ++ [(x &&& 255).toNatClampNeg] := by
    rw [show x &&& 255 = (x >>> (Int32.ofInt 0 &&& 31)) &&& 255 from by rw [show (Int32.ofInt 0 &&& 31 : Int32) = 0 from by decide, Int32.shiftRight_zero], List.append_assoc, List.append_assoc, List.append_assoc]
    rfl
  rw [e]
  refine mg_me [] 60 my_32 ms_32 (Nat.le_of_ble_eq_true rfl) ?_
  repeat (first | refine ⟨_, mg_Fs rfl rfl, ?_⟩ | refine ⟨Or.inl rfl, ?_⟩ | refine ⟨Or.inr ⟨_, rfl⟩, ?_⟩ | refine ⟨fun _ => ?_, fun h => absurd h (by decide)⟩ | refine ⟨fun h => absurd h (by decide), fun _ => ?_⟩)
  refine cIQ.s (c33 d hI (by omega) _) (mg_fr.rf _ _) (by omega) fun G1 h1 hc1 => ?_
  repeat (first | refine ⟨_, mg_Fs rfl rfl, ?_⟩ | refine ⟨Or.inl rfl, ?_⟩ | refine ⟨Or.inr ⟨_, rfl⟩, ?_⟩ | refine ⟨fun _ => ?_, fun h => absurd h (by decide)⟩ | refine ⟨fun h => absurd h (by decide), fun _ => ?_⟩)
  refine cIQ.s (c33 d h1 (by simp only [List.length_append, List.length_cons, List.length_nil]; omega) _) hc1 (by omega) fun G2 h2 hc2 => ?_
  repeat (first | refine ⟨_, mg_Fs rfl rfl, ?_⟩ | refine ⟨Or.inl rfl, ?_⟩ | refine ⟨Or.inr ⟨_, rfl⟩, ?_⟩ | refine ⟨fun _ => ?_, fun h => absurd h (by decide)⟩ | refine ⟨fun h => absurd h (by decide), fun _ => ?_⟩)
  refine cIQ.s (c33 d h2 (by simp only [List.length_append, List.length_cons, List.length_nil]; omega) _) hc2 (by omega) fun G3 h3 hc3 => ?_
  repeat (first | refine ⟨_, mg_Fs rfl rfl, ?_⟩ | refine ⟨Or.inl rfl, ?_⟩ | refine ⟨Or.inr ⟨_, rfl⟩, ?_⟩ | refine ⟨fun _ => ?_, fun h => absurd h (by decide)⟩ | refine ⟨fun h => absurd h (by decide), fun _ => ?_⟩)
  refine cIQ.s (c33 d h3 (by simp only [List.length_append, List.length_cons, List.length_nil]; omega) _) hc3 (by omega) fun G4 h4 hc4 => ?_
  exact ⟨rfl, rfl, h4, hc4⟩
theorem c104 (d : Nat) (hT : cT G S) (a b c e f : Int32) : mg_m (mg_KC scr t) (d + 20) 104 [.ref 0, .int a, .int b, .int c, .int e, .int f] G (cAp G (ex1 xS) (p206 S a b c e f)) := by
  have hI := hT.2.2.2.2.1
  obtain ⟨h1, h2, h3⟩ := id hI
  have e20 : Int32.ofNat (sIn S).length + (Int8.ofInt 20).toInt32 = Int32.ofNat ((sIn S).length + 20) := mg_addN _ 20
  have lb : ∀ x, (a_by x).length = 4 := fun x => rfl
  unfold p206 cAp
  by_cases hl : (sIn S).length + 20 ≤ 600
  · rw [if_pos hl]
    refine mg_me [] 90 my_104 ms_104 (Nat.le_of_ble_eq_true rfl) ?_
    repeat (first | refine ⟨_, mg_Fs rfl rfl, ?_⟩ | refine ⟨Or.inl rfl, ?_⟩ | refine ⟨Or.inr ⟨_, rfl⟩, ?_⟩ | refine ⟨fun _ => ?_, fun h => absurd h (by decide)⟩ | refine ⟨fun h => absurd h (by decide), fun _ => ?_⟩)
    refine ⟨_, mg_Fe h1 rfl rfl, fun _ => ?_, fun h => absurd h (show ¬ (Int16.ofInt 600).toInt32 < Int32.ofNat (sIn S).length + (Int8.ofInt 20).toInt32 from by rw [e20]; exact mg_nlt (b := 600) hl (by decide))⟩
    repeat (first | refine ⟨_, mg_Fs rfl rfl, ?_⟩ | refine ⟨Or.inl rfl, ?_⟩ | refine ⟨Or.inr ⟨_, rfl⟩, ?_⟩ | refine ⟨fun _ => ?_, fun h => absurd h (by decide)⟩ | refine ⟨fun h => absurd h (by decide), fun _ => ?_⟩)
    refine cIQ.s (c32 d hI (by omega) a) (mg_fr.rf _ _) (by omega) fun G1 h1 hc1 => ?_
    repeat (first | refine ⟨_, mg_Fs rfl rfl, ?_⟩ | refine ⟨Or.inl rfl, ?_⟩ | refine ⟨Or.inr ⟨_, rfl⟩, ?_⟩ | refine ⟨fun _ => ?_, fun h => absurd h (by decide)⟩ | refine ⟨fun h => absurd h (by decide), fun _ => ?_⟩)
    refine cIQ.s (c32 d h1 (by simp only [List.length_append, lb]; omega) b) hc1 (by omega) fun G2 h2 hc2 => ?_
    repeat (first | refine ⟨_, mg_Fs rfl rfl, ?_⟩ | refine ⟨Or.inl rfl, ?_⟩ | refine ⟨Or.inr ⟨_, rfl⟩, ?_⟩ | refine ⟨fun _ => ?_, fun h => absurd h (by decide)⟩ | refine ⟨fun h => absurd h (by decide), fun _ => ?_⟩)
    refine cIQ.s (c32 d h2 (by simp only [List.length_append, lb]; omega) c) hc2 (by omega) fun G3 h3 hc3 => ?_
    repeat (first | refine ⟨_, mg_Fs rfl rfl, ?_⟩ | refine ⟨Or.inl rfl, ?_⟩ | refine ⟨Or.inr ⟨_, rfl⟩, ?_⟩ | refine ⟨fun _ => ?_, fun h => absurd h (by decide)⟩ | refine ⟨fun h => absurd h (by decide), fun _ => ?_⟩)
    refine cIQ.s (c32 d h3 (by simp only [List.length_append, lb]; omega) e) hc3 (by omega) fun G4 h4 hc4 => ?_
    repeat (first | refine ⟨_, mg_Fs rfl rfl, ?_⟩ | refine ⟨Or.inl rfl, ?_⟩ | refine ⟨Or.inr ⟨_, rfl⟩, ?_⟩ | refine ⟨fun _ => ?_, fun h => absurd h (by decide)⟩ | refine ⟨fun h => absurd h (by decide), fun _ => ?_⟩)
    refine cIQ.s (c32 d h4 (by simp only [List.length_append, lb]; omega) f) hc4 (by omega) fun G5 h5 hc5 => ?_
    repeat (first | refine ⟨_, mg_Fs rfl rfl, ?_⟩ | refine ⟨Or.inl rfl, ?_⟩ | refine ⟨Or.inr ⟨_, rfl⟩, ?_⟩ | refine ⟨fun _ => ?_, fun h => absurd h (by decide)⟩ | refine ⟨fun h => absurd h (by decide), fun _ => ?_⟩)
    refine ⟨_, mg_Fe h5.1 rfl rfl, Or.inl rfl, cA_v (hT.inp hc5 h5) (frI hc5) ?_⟩
    congr 1
    simp only [List.length_append, lb]
  · rw [if_neg hl]
    refine mg_me [] 90 my_104 ms_104 (Nat.le_of_ble_eq_true rfl) ?_
    repeat (first | refine ⟨_, mg_Fs rfl rfl, ?_⟩ | refine ⟨Or.inl rfl, ?_⟩ | refine ⟨Or.inr ⟨_, rfl⟩, ?_⟩ | refine ⟨fun _ => ?_, fun h => absurd h (by decide)⟩ | refine ⟨fun h => absurd h (by decide), fun _ => ?_⟩)
    refine ⟨_, mg_Fe h1 rfl rfl, fun h => absurd h (show ¬ Int32.ofNat (sIn S).length + (Int8.ofInt 20).toInt32 ≤ (Int16.ofInt 600).toInt32 from by rw [e20]; exact fun q => hl ((mg_leN (b := 600) (by omega) (by decide)).mp q)), fun _ => ⟨Nat.le_of_ble_eq_true rfl, cA_x hT (by decide) rfl⟩⟩
theorem c105 (d : Nat) (hT : cT G S) (n : Int32) : mg_m (mg_KC scr t) (d + 20) 105 [.ref 0, .int n] G (cAp G (ex1 xA) (p207 S n)) := by
  obtain ⟨h1, h2, h3⟩ := id hT.2.2.2.2.1
  unfold p207 cAp
  cases hn : vi n ((sIn S).length + 1) with
  | none =>
    have hn := vi_n hn (by omega)
    refine mg_me [] 60 my_105 ms_105 (Nat.le_of_ble_eq_true rfl) ?_
    refine ⟨fun _ => ⟨Nat.le_of_ble_eq_true rfl, cA_x hT (by decide) rfl⟩, fun h0 => ?_⟩
    repeat (first | refine ⟨_, mg_Fs rfl rfl, ?_⟩ | refine ⟨Or.inl rfl, ?_⟩ | refine ⟨Or.inr ⟨_, rfl⟩, ?_⟩ | refine ⟨fun _ => ?_, fun h => absurd h (by decide)⟩ | refine ⟨fun h => absurd h (by decide), fun _ => ?_⟩)
    refine ⟨_, mg_Fe h1 rfl rfl, fun h => ?_, fun _ => ⟨Nat.le_of_ble_eq_true rfl, cA_x hT (by decide) rfl⟩⟩
    rcases hn with q | q
    · exact absurd q (Int32.not_lt.mpr h0)
    · exact absurd (Int32.le_trans q h) (mg_nle (by omega) (by omega))
  | some k =>
    obtain ⟨rfl, hk⟩ := vi_s hn
    refine mg_me [] 60 my_105 ms_105 (Nat.le_of_ble_eq_true rfl) ?_
    refine ⟨fun h => absurd h (mg_nl0 (by omega)), fun _ => ?_⟩
    repeat (first | refine ⟨_, mg_Fs rfl rfl, ?_⟩ | refine ⟨Or.inl rfl, ?_⟩ | refine ⟨Or.inr ⟨_, rfl⟩, ?_⟩ | refine ⟨fun _ => ?_, fun h => absurd h (by decide)⟩ | refine ⟨fun h => absurd h (by decide), fun _ => ?_⟩)
    refine ⟨_, mg_Fe h1 rfl rfl, fun _ => ?_, fun h => absurd h (mg_nlt (by omega) (by omega))⟩
    repeat (first | refine ⟨_, mg_Fs rfl rfl, ?_⟩ | refine ⟨Or.inl rfl, ?_⟩ | refine ⟨Or.inr ⟨_, rfl⟩, ?_⟩ | refine ⟨fun _ => ?_, fun h => absurd h (by decide)⟩ | refine ⟨fun h => absurd h (by decide), fun _ => ?_⟩)
    have f1 : mg_fr (fun a => a = 1 ∨ a = 2) G (mg_sF G 1 1 (.int (Int32.ofNat k))) := mg_fr.sF _ _ _ (Or.inl rfl)
    refine ⟨rfl, _, rfl, rfl, Or.inl rfl, cA_v (hT.inp f1 ⟨?_, by rw [List.length_take]; omega, fun i c hi => ?_⟩) (frI f1) rfl⟩
    · rw [List.length_take, Nat.min_eq_left (by omega)]
      exact mg_sF_at _ _ _ _
    · rw [List.getElem?_take] at hi
      split at hi
      · exact h3 i c hi
      · cases hi
theorem c34 (d : Nat) (hI : cIn G l) : mg_m (mg_KC scr t) (d + 1) 34 [.ref 1] G (mg_v (.long (a_nmI l)) G) := by
  obtain ⟨h1, h2, h3⟩ := hI
  by_cases h7 : l.length ≤ 7
  · refine mg_me [15] 60 my_34 ms_34 (Nat.le_of_ble_eq_true rfl) ?_
    refine ⟨_, mg_Fe h1 rfl rfl, fun _ => ?_, fun h => absurd h (mg_nlt (b := 7) h7 (by decide))⟩
    refine mg_loop l.length (fun k L G' => L = [some (.ref 1), some (.long (a_pk (l.take k))), none, some (.int (Int32.ofNat k))] ∧ G' = G ∧ a_let (l.take k)) ?_ ?_ _ _ ⟨rfl, rfl, by rw [List.take_zero]; exact fun c h => absurd h List.not_mem_nil⟩
    · rintro k L G' hk ⟨rfl, rfl, hlt⟩ ih
      obtain ⟨c, hc⟩ : ∃ c, l[k]? = some c := ⟨_, List.getElem?_eq_getElem hk⟩
      obtain ⟨b1, b2⟩ := h3 k c hc
      obtain ⟨b3, b4⟩ := a_sx_lt c b2
      refine mg_go [15] 60 15 ms_34 ?_
      repeat (first | refine ⟨_, mg_Fs rfl rfl, ?_⟩ | refine ⟨Or.inl rfl, ?_⟩ | refine ⟨Or.inr ⟨_, rfl⟩, ?_⟩ | refine ⟨fun _ => ?_, fun h => absurd h (by decide)⟩ | refine ⟨fun h => absurd h (by decide), fun _ => ?_⟩)
      refine ⟨_, mg_Fe h1 rfl rfl, fun h => absurd h (mg_nle hk (by omega)), fun _ => ?_⟩
      repeat (first | refine ⟨_, mg_Fs rfl rfl, ?_⟩ | refine ⟨Or.inl rfl, ?_⟩ | refine ⟨Or.inr ⟨_, rfl⟩, ?_⟩ | refine ⟨fun _ => ?_, fun h => absurd h (by decide)⟩ | refine ⟨fun h => absurd h (by decide), fun _ => ?_⟩)
      refine ⟨2, 600, _, k, mg_Ab rfl (by decide), Or.inl rfl, mg_ixN (by omega), by omega, ?_⟩
      rw [b1]
      by_cases hb : 97 ≤ c ∧ c ≤ 122
      · obtain ⟨b5, b6⟩ := b4 hb
        have hq : ¬ (a_sx c < (Int8.ofInt 97).toInt32 ∨ (Int8.ofInt 122).toInt32 < a_sx c) := fun q => b3.mp q hb
        refine ⟨fun h => absurd (Or.inl h) hq, fun _ => ?_⟩
        repeat (first | refine ⟨_, mg_Fs rfl rfl, ?_⟩ | refine ⟨Or.inl rfl, ?_⟩ | refine ⟨Or.inr ⟨_, rfl⟩, ?_⟩ | refine ⟨fun _ => ?_, fun h => absurd h (by decide)⟩ | refine ⟨fun h => absurd h (by decide), fun _ => ?_⟩)
        refine ⟨2, 600, _, k, mg_Ab rfl (by decide), Or.inl rfl, mg_ixN (by omega), by omega, ?_⟩
        rw [b1]
        refine ⟨fun _ => ?_, fun h => absurd (Or.inr h) hq⟩
        repeat (first | refine ⟨_, mg_Fs rfl rfl, ?_⟩ | refine ⟨Or.inl rfl, ?_⟩ | refine ⟨Or.inr ⟨_, rfl⟩, ?_⟩ | refine ⟨fun _ => ?_, fun h => absurd h (by decide)⟩ | refine ⟨fun h => absurd h (by decide), fun _ => ?_⟩)
        refine ⟨2, 600, _, k, mg_Ab rfl (by decide), Or.inl rfl, mg_ixN (by omega), by omega, ?_⟩
        rw [b1]
        have hl6 : (l.take k).length ≤ 6 := by rw [List.length_take]; omega
        have es := a_pk_s ⟨hlt, by omega⟩ hl6 (show c < 128 by omega)
        rw [← b6] at es
        refine ih _ _ ⟨?_, rfl, ?_⟩
        · rw [List.take_succ, hc, ← mg_inc k]
          show _ = ([some (.ref 1), some (.long (a_pk (l.take k ++ [c]))), none, _] : List (Option Value))
          rw [← es]
        · rw [List.take_succ, hc]
          exact a_let_s.mpr ⟨hlt, hb⟩
      · have hz : a_nmI l = 0 := a_nmI_0 fun q => hb (q.1 c (List.mem_of_getElem? hc))
        have hq := b3.mpr hb
        refine ⟨fun _ => ⟨by rw [hz]; rfl, rfl, rfl⟩, fun h => ?_⟩
        repeat (first | refine ⟨_, mg_Fs rfl rfl, ?_⟩ | refine ⟨Or.inl rfl, ?_⟩ | refine ⟨Or.inr ⟨_, rfl⟩, ?_⟩ | refine ⟨fun _ => ?_, fun h => absurd h (by decide)⟩ | refine ⟨fun h => absurd h (by decide), fun _ => ?_⟩)
        refine ⟨2, 600, _, k, mg_Ab rfl (by decide), Or.inl rfl, mg_ixN (by omega), by omega, ?_⟩
        rw [b1]
        refine ⟨fun h2 => ?_, fun _ => ⟨by rw [hz]; rfl, rfl, rfl⟩⟩
        exact absurd hq (fun q => q.elim (fun q => absurd q (Int32.not_lt.mpr h)) (fun q => absurd q (Int32.not_lt.mpr h2)))
    · rintro L G' ⟨rfl, rfl, hlt⟩
      rw [List.take_length] at hlt ⊢
      refine mg_go [] 60 15 ms_34 ?_
      repeat (first | refine ⟨_, mg_Fs rfl rfl, ?_⟩ | refine ⟨Or.inl rfl, ?_⟩ | refine ⟨Or.inr ⟨_, rfl⟩, ?_⟩ | refine ⟨fun _ => ?_, fun h => absurd h (by decide)⟩ | refine ⟨fun h => absurd h (by decide), fun _ => ?_⟩)
      refine ⟨_, mg_Fe h1 rfl rfl, fun _ => ⟨by rw [a_nmI_1 ⟨hlt, h7⟩], rfl, rfl⟩, fun h => absurd h (Int32.not_lt.mpr (Int32.le_refl _))⟩
  · have hz : a_nmI l = 0 := a_nmI_0 fun q => h7 q.2
    refine mg_me [15] 60 my_34 ms_34 (Nat.le_of_ble_eq_true rfl) ?_
    repeat (first | refine ⟨_, mg_Fs rfl rfl, ?_⟩ | refine ⟨Or.inl rfl, ?_⟩ | refine ⟨Or.inr ⟨_, rfl⟩, ?_⟩ | refine ⟨fun _ => ?_, fun h => absurd h (by decide)⟩ | refine ⟨fun h => absurd h (by decide), fun _ => ?_⟩)
    refine ⟨_, mg_Fe h1 rfl rfl, fun h => absurd ((mg_leN (b := 7) (by omega) (by decide)).mp h) h7, fun _ => ⟨by rw [hz]; rfl, rfl, rfl⟩⟩
theorem c113 (d : Nat) (hT : cT G S) : mg_m (mg_KC scr t) (d + 20) 113 [.ref 0] G (cA G (ex1 xN) S (q266 S)) := by
  have hW := hT.2.1
  have hN := hT.1.2.2.2.2.1
  have hF := hT.1.2.1
  have h12 := hT.f12
  have e : a_ff (fun v => decide (a_nmI (sIn S) ≠ 0 ∧ G.2.1 (30 + 3) v = a_nmI (sIn S))) (aF (sA S)) = a_ff (fun f => decide (aFN (sA S) f ≠ [] ∧ aFN (sA S) f = sIn S)) (aF (sA S)) := a_ff_c fun f hf => by
    have hf7 := hW.2.2.2.2.2.1 f hf
    refine decide_eq_decide.mpr ?_
    rw [hN f hf]
    by_cases h : a_nm7 (sIn S)
    · rw [a_nmI_1 h]
      have e1 := a_pk_0 h
      have e2 := a_pk_inj hf7 h
      constructor
      · rintro ⟨p, q⟩
        have q := e2.mp q
        exact ⟨fun z => p (e1.mpr (by rw [← q]; exact z)), q⟩
      · rintro ⟨p, q⟩
        exact ⟨fun z => p (by rw [q]; exact e1.mp z), e2.mpr q⟩
    · rw [a_nmI_0 h]
      exact ⟨fun q => absurd rfl q.1, fun q => absurd (by rw [← q.2]; exact hf7) h⟩
  have k1 := c68 (K := mg_KC scr t) (G := G) (s := 30) d kc_s1 h12 hF (a_nmI (sIn S))
  rw [e] at k1
  unfold q266
  refine mg_me [] 60 my_113 ms_113 (Nat.le_of_ble_eq_true rfl) ?_
  repeat (first | refine ⟨_, mg_Fs rfl rfl, ?_⟩ | refine ⟨Or.inl rfl, ?_⟩ | refine ⟨Or.inr ⟨_, rfl⟩, ?_⟩ | refine ⟨fun _ => ?_, fun h => absurd h (by decide)⟩ | refine ⟨fun h => absurd h (by decide), fun _ => ?_⟩)
  refine mg_cv (c34 d hT.2.2.2.2.1) (by omega) ?_
  repeat (first | refine ⟨_, mg_Fs rfl rfl, ?_⟩ | refine ⟨Or.inl rfl, ?_⟩ | refine ⟨Or.inr ⟨_, rfl⟩, ?_⟩ | refine ⟨fun _ => ?_, fun h => absurd h (by decide)⟩ | refine ⟨fun h => absurd h (by decide), fun _ => ?_⟩)
  refine mg_cv (k1) (by omega) ?_
  rcases a_ff_is (fun f => decide (aFN (sA S) f ≠ [] ∧ aFN (sA S) f = sIn S)) (aF (sA S)) with ⟨k, hk, e1, -, -⟩ | ⟨e1, -⟩
  · rw [e1]
    refine ⟨fun _ => ⟨Or.inl rfl, cA_v hT (mg_fr.rf _ _) rfl⟩, fun h => ?_⟩
    exact absurd h (mg_n1 (by omega))
  · rw [e1]
    exact ⟨fun h => absurd rfl h, fun _ => ⟨Nat.le_of_ble_eq_true rfl, cA_x hT (by decide) rfl⟩⟩
end KC
