/-! CLASS: texts that are written -/
theorem a_nar : ∀ c, c < 128 → vp_nar .byte (Int32.ofNat c).toInt8.toInt32 = Int32.ofNat c := by decide +kernel
theorem a_pn_dig : ∀ l, a_let l → ∀ k, a_pn l / 256 ^ k % 256 = if k < l.length then (l[l.length - 1 - k]?).getD 0 else 0 := by
  refine a_snoc (fun _ k => ?_) (fun l c ih h k => ?_)
  · rw [show a_pn [] = 0 from rfl, Nat.zero_div]
    exact (if_neg (Nat.not_lt_zero k)).symm
  · obtain ⟨h1, h2, h3⟩ := a_let_s.mp h
    rw [a_pn_s, List.length_append, List.length_singleton]
    cases k with
    | zero =>
      rw [Nat.pow_zero, Nat.div_one, if_pos (by omega), show l.length + 1 - 1 - 0 = l.length by omega, List.getElem?_append_right (Nat.le_refl _), Nat.sub_self]
      show _ = c
      omega
    | succ k =>
      rw [Nat.pow_succ, Nat.mul_comm (256 ^ k) 256, ← Nat.div_div_eq_div_mul, show (a_pn l * 256 + c) / 256 = a_pn l by omega, ih h1 k]
      by_cases e : k < l.length
      · rw [if_pos e, if_pos (by omega), List.getElem?_append_left (by omega), show l.length + 1 - 1 - (k + 1) = l.length - 1 - k by omega]
      · rw [if_neg e, if_neg (by omega)]
theorem a_pk_b {l : List Nat} (h : a_nm7 l) (k : Nat) (hk : k < 7) : ((a_pk l).toUInt64 >>> UInt64.ofNat (8 * k)).toInt64.toInt32 &&& (Int16.ofInt 255).toInt32 = Int32.ofNat (a_pn l / 256 ^ k % 256) := by
  have h1 := a_pn_56 h.1 h.2
  apply Int32.toBitVec_inj.mp
  apply BitVec.eq_of_toNat_eq
  rw [Int32.toBitVec_and]
  show (((a_pk l).toUInt64 >>> UInt64.ofNat (8 * k)).toBitVec.signExtend 32 &&& 255#32).toNat = _
  rw [BitVec.toNat_and, show (255#32).toNat = 2 ^ 8 - 1 from rfl, Nat.and_two_pow_sub_one_eq_mod, BitVec.signExtend_eq_setWidth_of_le _ (by decide), BitVec.toNat_setWidth, Int32.toBitVec_ofNat', BitVec.toNat_ofNat]
  rw [UInt64.toBitVec_shiftRight]
  show ((a_pk l).toBitVec >>> ((UInt64.ofNat (8 * k)).toBitVec % 64)).toNat % 2 ^ 32 % 2 ^ 8 = _
  have e0 : (UInt64.ofNat (8 * k)).toBitVec % 64 = BitVec.ofNat 64 (8 * k) := by
    rcases (show k = 0 ∨ k = 1 ∨ k = 2 ∨ k = 3 ∨ k = 4 ∨ k = 5 ∨ k = 6 by omega) with rfl | rfl | rfl | rfl | rfl | rfl | rfl <;> decide
  have e : (a_pk l).toBitVec.toNat = a_pn l := by
    show (Int64.ofNat (a_pn l)).toBitVec.toNat = _
    rw [Int64.toBitVec_ofNat', BitVec.toNat_ofNat]
    exact Nat.mod_eq_of_lt (by omega)
  rw [e0, BitVec.ushiftRight_eq', BitVec.toNat_ushiftRight, e, BitVec.toNat_ofNat, Nat.mod_eq_of_lt (show 8 * k < 2 ^ 64 by omega), Nat.shiftRight_eq_div_pow, Nat.pow_mul, show (2 : Nat) ^ 8 = 256 from rfl]
  generalize a_pn l / 256 ^ k = x
  omega
section KC
variable {scr : Nat × (Nat → Int32)} {t : List mg_S} {G : mg_G} {S : a_S} {A : a_A} {l : List Nat}
/-- the text is written on -/
def cWQ (G : mg_G) (l : List Nat) : mg_Q := fun o q G' => o = .inl none ∧ q = 0 ∧ cWr G' l ∧ mg_fr (fun a => a = 146 ∨ a = 147) G G'
theorem cWQ.s {K : mg_K} {d d' y : Nat} {As : List Value} {G0 G : mg_G} {l' : List Nat} (h : mg_m K d y As G (cWQ G l')) (hc : mg_fr (fun a => a = 146 ∨ a = 147) G0 G) (hd : d ≤ d') {Q : mg_Q} (hQ : ∀ G', cWr G' l' → mg_fr (fun a => a = 146 ∨ a = 147) G0 G' → Q (.inl none) 0 G') : mg_m K d' y As G Q := by
  refine mg_m_mono h hd ?_
  rintro o q G' ⟨rfl, rfl, h1, h2⟩
  exact hQ G' h1 (hc.tr h2)
theorem c100 (d : Nat) (hW : cWr G l) (hl : l.length < 1600) {b : Nat} (hb : b < 128) : mg_m (mg_KC scr t) (d + 1) 100 [.ref 146, .int (Int32.ofNat b)] G (cWQ G (l ++ [b])) := by
  obtain ⟨h1, h2, h3⟩ := hW
  refine mg_me [] 60 my_100 ms_100 (Nat.le_of_ble_eq_true rfl) ?_
  refine ⟨_, mg_Fe h1 rfl rfl, fun h => absurd h (mg_nle (b := 1600) hl (by decide)), fun _ => ?_⟩
  repeat (first | refine ⟨_, mg_Fs rfl rfl, ?_⟩ | refine ⟨Or.inl rfl, ?_⟩ | refine ⟨Or.inr ⟨_, rfl⟩, ?_⟩ | refine ⟨fun _ => ?_, fun h => absurd h (by decide)⟩ | refine ⟨fun h => absurd h (by decide), fun _ => ?_⟩)
  refine ⟨_, mg_Fe h1 rfl rfl, 2, 1600, l.length, rfl, mg_ixN (by omega), by omega, Or.inl rfl, ?_⟩
  refine ⟨_, mg_Fe h1 rfl rfl, rfl, _, rfl, rfl, rfl, rfl, ⟨?_, by rw [List.length_append]; exact hl, fun i c hi => ?_⟩, (mg_fr.sI _ _ _ (Or.inr rfl)).tr (mg_fr.sF _ _ _ (Or.inl rfl))⟩
  · refine (mg_sF_at _ _ _ _).trans ?_
    show Value.int (Int32.ofNat l.length + Int32.ofInt 1) = _
    rw [mg_inc, List.length_append]
    rfl
  · show mg_u2 G.1 147 l.length (vp_nar .byte (Int32.ofNat b).toInt8.toInt32) 147 i = _ ∧ _
    rw [mg_u2_same, a_nar b hb]
    by_cases q : i = l.length
    · subst q
      rw [List.getElem?_append_right (Nat.le_refl _), Nat.sub_self] at hi
      have := Option.some.inj hi
      subst this
      exact ⟨mg_u_eq _ _ _, hb⟩
    · have hl2 := (List.getElem?_eq_some_iff.mp hi).1
      rw [List.length_append] at hl2
      have hl2 : i < l.length + 1 := hl2
      rw [List.getElem?_append_left (by omega)] at hi
      rw [mg_u_ne _ _ q]
      exact h3 i c hi
theorem c101 (d : Nat) (hW : cWr G l) (hl : l.length + 3 ≤ 1600) {n : Nat} (hn : n < 1000) : mg_m (mg_KC scr t) (d + 2) 101 [.ref 146, .int (Int32.ofNat n)] G (cWQ G (l ++ w_num n)) := by
  obtain ⟨e1, e2, e3⟩ := mg_num n hn
  have last : ∀ (G1 : mg_G) (l1 : List Nat), cWr G1 l1 → mg_fr (fun a => a = 146 ∨ a = 147) G G1 → l1.length < 1600 → mg_wp (mg_KC scr t) mc_101 (d + 1) 37 [some (.ref 146), some (.int (Int32.ofNat n))] [] G1 (cWQ G (l1 ++ [48 + n % 10])) := fun G1 l1 h1 hc hl1 => by
    have k1 := c100 (scr := scr) (t := t) d h1 hl1 (show 48 + n % 10 < 128 by omega)
    rw [← e3] at k1
    refine mg_go [] 60 37 ms_101 ?_
    repeat (first | refine ⟨_, mg_Fs rfl rfl, ?_⟩ | refine ⟨Or.inl rfl, ?_⟩ | refine ⟨Or.inr ⟨_, rfl⟩, ?_⟩ | refine ⟨fun _ => ?_, fun h => absurd h (by decide)⟩ | refine ⟨fun h => absurd h (by decide), fun _ => ?_⟩)
    refine cWQ.s k1 hc (by omega) fun G2 h2 hc2 => ?_
    exact ⟨rfl, rfl, h2, hc2⟩
  have mid : ∀ (G1 : mg_G) (l1 : List Nat), cWr G1 l1 → mg_fr (fun a => a = 146 ∨ a = 147) G G1 → l1.length + 2 ≤ 1600 → mg_wp (mg_KC scr t) mc_101 (d + 1) 17 [some (.ref 146), some (.int (Int32.ofNat n))] [] G1 (cWQ G (l1 ++ (if 10 ≤ n then [48 + n / 10 % 10] else []) ++ [48 + n % 10])) := fun G1 l1 h1 hc hl1 => by
    refine mg_go [37] 60 17 ms_101 ?_
    refine ⟨fun h => ?_, fun h => ?_⟩
    · have h := (mg_ltN (b := 10) (by omega) (by decide)).mp h
      rw [if_neg (by omega), List.append_nil]
      exact last G1 l1 h1 hc (by omega)
    · have h := (mg_leN (a := 10) (by decide) (by omega)).mp h
      rw [if_pos h]
      have k1 := c100 (scr := scr) (t := t) d h1 (by omega) (show 48 + n / 10 % 10 < 128 by omega)
      rw [← e2] at k1
      repeat (first | refine ⟨_, mg_Fs rfl rfl, ?_⟩ | refine ⟨Or.inl rfl, ?_⟩ | refine ⟨Or.inr ⟨_, rfl⟩, ?_⟩ | refine ⟨fun _ => ?_, fun h => absurd h (by decide)⟩ | refine ⟨fun h => absurd h (by decide), fun _ => ?_⟩)
      refine cWQ.s k1 hc (by omega) fun G2 h2 hc2 => ?_
      exact last G2 _ h2 hc2 (by rw [List.length_append]; show l1.length + 1 < 1600; omega)
  unfold w_num
  rw [← List.append_assoc, ← List.append_assoc]
  refine mg_me [17] 60 my_101 ms_101 (Nat.le_of_ble_eq_true rfl) ?_
  refine ⟨fun h => ?_, fun h => ?_⟩
  · have h := (mg_ltN (b := 100) (by omega) (by decide)).mp h
    rw [if_neg (by omega), List.append_nil]
    exact mid G l hW (mg_fr.rf _ _) (by omega)
  · have h := (mg_leN (a := 100) (by decide) (by omega)).mp h
    rw [if_pos h]
    have k1 := c100 (scr := scr) (t := t) d hW (by omega) (show 48 + n / 100 < 128 by omega)
    rw [← e1] at k1
    repeat (first | refine ⟨_, mg_Fs rfl rfl, ?_⟩ | refine ⟨Or.inl rfl, ?_⟩ | refine ⟨Or.inr ⟨_, rfl⟩, ?_⟩ | refine ⟨fun _ => ?_, fun h => absurd h (by decide)⟩ | refine ⟨fun h => absurd h (by decide), fun _ => ?_⟩)
    refine cWQ.s k1 (mg_fr.rf _ _) (by omega) fun G2 h2 hc2 => ?_
    exact mid G2 _ h2 hc2 (by rw [List.length_append]; show l.length + 1 + 2 ≤ 1600; omega)
theorem c102 (d : Nat) (hW : cWr G l) (hl : l.length + 7 ≤ 1600) {m : List Nat} (hm : a_nm7 m) : mg_m (mg_KC scr t) (d + 2) 102 [.ref 146, .long (a_pk m)] G (cWQ G (l ++ m)) := by
  obtain ⟨m1, m2⟩ := id hm
  refine mg_me [3] 60 my_102 ms_102 (Nat.le_of_ble_eq_true rfl) ?_
  refine mg_loop 7 (fun k L G' => (∃ x, L = [some (.ref 146), some (.long (a_pk m)), none, some (.int (Int32.ofInt (48 - 8 * (k : Int)))), x]) ∧ cWr G' (l ++ m.take (k + m.length - 7)) ∧ mg_fr (fun a => a = 146 ∨ a = 147) G G') ?_ ?_ _ _ ⟨⟨none, rfl⟩, by rw [show 0 + m.length - 7 = 0 by omega, List.take_zero, List.append_nil]; exact hW, mg_fr.rf _ _⟩
  · rintro k L G' hk ⟨⟨x, rfl⟩, h1, hc⟩ ih
    have es : ∀ k : Nat, k < 7 → Int32.ofInt (48 - 8 * (k : Int)) + Int32.ofInt (-8) = Int32.ofInt (48 - 8 * ((k + 1 : Nat) : Int)) := by decide
    have e0 : ∀ k : Nat, k < 7 → ¬ Int32.ofInt (48 - 8 * (k : Int)) < 0 := by decide
    have ey : ∀ k : Nat, k < 7 → (Int32.ofInt (48 - 8 * (k : Int))).toInt64.toUInt64 &&& Int64.toUInt64 63 = UInt64.ofNat (8 * (6 - k)) := by decide
    have eb : ((a_pk m).toUInt64 >>> ((Int32.ofInt (48 - 8 * (k : Int))).toInt64.toUInt64 &&& Int64.toUInt64 63)).toInt64.toInt32 &&& (Int16.ofInt 255).toInt32 = Int32.ofNat (a_pn m / 256 ^ (6 - k) % 256) := by
      rw [ey k hk]
      exact a_pk_b hm (6 - k) (by omega)
    rw [a_pn_dig m m1] at eb
    have ihn : (if 6 - k < m.length then (m[m.length - 1 - (6 - k)]?).getD 0 else 0) = 0 ∨ True := Or.inr trivial
    refine mg_go [3] 60 3 ms_102 ?_
    refine ⟨fun h => absurd h (e0 k hk), fun _ => ?_⟩
    by_cases hlt : 6 - k < m.length
    · rw [if_pos hlt] at eb
      obtain ⟨c, hc1⟩ : ∃ c, m[m.length - 1 - (6 - k)]? = some c := ⟨_, List.getElem?_eq_getElem (by omega)⟩
      rw [hc1] at eb
      have hc2 := m1 c (List.mem_of_getElem? hc1)
      have eb : ((a_pk m).toUInt64 >>> ((Int32.ofInt (48 - 8 * (k : Int))).toInt64.toUInt64 &&& Int64.toUInt64 63)).toInt64.toInt32 &&& (Int16.ofInt 255).toInt32 = Int32.ofNat c := eb
      have k1 := c100 (scr := scr) (t := t) d h1 (by rw [List.length_append, List.length_take]; omega) (show c < 128 by omega)
      rw [← eb] at k1
      refine ⟨fun h => ?_, fun _ => ?_⟩
      · have h := eb.symm.trans h
        exact absurd ((mg_eqN (b := 0) (by omega) (by decide)).mp h) (by omega)
      · repeat (first | refine ⟨_, mg_Fs rfl rfl, ?_⟩ | refine ⟨Or.inl rfl, ?_⟩ | refine ⟨Or.inr ⟨_, rfl⟩, ?_⟩ | refine ⟨fun _ => ?_, fun h => absurd h (by decide)⟩ | refine ⟨fun h => absurd h (by decide), fun _ => ?_⟩)
        refine cWQ.s k1 hc (by omega) fun G2 h2 hc3 => ?_
        refine ih _ _ ⟨⟨_, by rw [← es k hk] <;> rfl⟩, ?_, hc3⟩
        rw [show k + 1 + m.length - 7 = (k + m.length - 7) + 1 by omega, List.take_succ, show k + m.length - 7 = m.length - 1 - (6 - k) by omega, hc1, ← List.append_assoc, show m.length - 1 - (6 - k) = k + m.length - 7 by omega]
        exact h2
    · rw [if_neg hlt] at eb
      refine ⟨fun _ => ih _ _ ⟨⟨_, by rw [← es k hk] <;> rfl⟩, ?_, hc⟩, fun h => absurd eb h⟩
      rw [show k + 1 + m.length - 7 = 0 by omega]
      rw [show k + m.length - 7 = 0 by omega] at h1
      exact h1
  · rintro L G' ⟨⟨x, rfl⟩, h1, hc⟩
    rw [show 7 + m.length - 7 = m.length by omega, List.take_length] at h1
    refine mg_go [] 60 3 ms_102 ?_
    refine ⟨fun _ => ⟨rfl, rfl, h1, hc⟩, fun h => absurd (show Int32.ofInt (48 - 8 * ((7 : Nat) : Int)) < 0 by decide) (Int32.not_lt.mpr h)⟩
/-- a line of a node -/
theorem c171 (d : Nat) (hS : cS G 30 A) (hW : aW A) (hD : cDA G A) (hw : cWr G l) (hl : l.length + 20 ≤ 1600) {k : Nat} (h2 : 2 ≤ k) (hk : k < gN (aG A)) : mg_m (mg_KC scr t) (d + 3) 171 [.ref 0, .int (Int32.ofNat k)] G (cWQ G (l ++ w_nd A k)) := by
  have hg := hD.2.1
  have h9 := hg.2.1
  have hv8 : aV A ≤ 8 := hW.2.1.2.2.2
  obtain ⟨q1, q2, q3, -, -⟩ := hg.2.2.2.2 k h2 hk
  obtain ⟨e1, e2⟩ := hD.1.2.2.2.2 k h2 hk
  have hv := hW.2.1.1 _ q1
  have hnm := (hW.2.2.2.2.1 _ hv).1
  have n1 := w_num_le k
  have n2 := w_num_le (gO (aG A) k)
  have n3 := hnm.2
  have nf : ∀ {G1 : mg_G}, mg_fr (fun a => a = 146 ∨ a = 147) G G1 → cDA G1 A := fun h => hD.fr h (fun a ha => by unfold kG at ha; omega)
  refine mg_me [] 60 my_171 ms_171 (Nat.le_of_ble_eq_true rfl) ?_
  repeat (first | refine ⟨_, mg_Fs rfl rfl, ?_⟩ | refine ⟨Or.inl rfl, ?_⟩ | refine ⟨Or.inr ⟨_, rfl⟩, ?_⟩ | refine ⟨fun _ => ?_, fun h => absurd h (by decide)⟩ | refine ⟨fun h => absurd h (by decide), fun _ => ?_⟩)
  refine cWQ.s (c100 d hw (by omega) (show 59 < 128 by decide)) (mg_fr.rf _ _) (by omega) fun G1 h1 hc1 => ?_
  repeat (first | refine ⟨_, mg_Fs rfl rfl, ?_⟩ | refine ⟨Or.inl rfl, ?_⟩ | refine ⟨Or.inr ⟨_, rfl⟩, ?_⟩ | refine ⟨fun _ => ?_, fun h => absurd h (by decide)⟩ | refine ⟨fun h => absurd h (by decide), fun _ => ?_⟩)
  refine cWQ.s (c101 d h1 (by simp only [List.length_append, List.length_cons, List.length_nil]; omega) (show k < 1000 by omega)) hc1 (by omega) fun G2 h2 hc2 => ?_
  repeat (first | refine ⟨_, mg_Fs rfl rfl, ?_⟩ | refine ⟨Or.inl rfl, ?_⟩ | refine ⟨Or.inr ⟨_, rfl⟩, ?_⟩ | refine ⟨fun _ => ?_, fun h => absurd h (by decide)⟩ | refine ⟨fun h => absurd h (by decide), fun _ => ?_⟩)
  refine cWQ.s (c100 d h2 (by simp only [List.length_append, List.length_cons, List.length_nil]; omega) (show 58 < 128 by decide)) hc2 (by omega) fun G3 h3 hc3 => ?_
  have k11 := c11 (scr := scr) (t := t) d (nf hc3) hW hk
  rw [if_neg (show ¬ k < 2 by omega)] at k11
  repeat (first | refine ⟨_, mg_Fs rfl rfl, ?_⟩ | refine ⟨Or.inl rfl, ?_⟩ | refine ⟨Or.inr ⟨_, rfl⟩, ?_⟩ | refine ⟨fun _ => ?_, fun h => absurd h (by decide)⟩ | refine ⟨fun h => absurd h (by decide), fun _ => ?_⟩)
  refine mg_cv (k11) (by omega) ?_
  refine ⟨_, _, aD A (gL (aG A) k), mg_Al rfl (by decide), mg_ixN (by omega), by omega, ?_⟩
  rw [show G3.2.1 34 (aD A (gL (aG A) k)) = a_pk (aVN A (aD A (gL (aG A) k))) from (congrFun (hc3 34 (by decide)).2.1 _).trans (hS.2.2.2.2.2.1 _ hv)]
  repeat (first | refine ⟨_, mg_Fs rfl rfl, ?_⟩ | refine ⟨Or.inl rfl, ?_⟩ | refine ⟨Or.inr ⟨_, rfl⟩, ?_⟩ | refine ⟨fun _ => ?_, fun h => absurd h (by decide)⟩ | refine ⟨fun h => absurd h (by decide), fun _ => ?_⟩)
  refine cWQ.s (c102 d h3 (by simp only [List.length_append, List.length_cons, List.length_nil]; omega) hnm) hc3 (by omega) fun G4 h4 hc4 => ?_
  repeat (first | refine ⟨_, mg_Fs rfl rfl, ?_⟩ | refine ⟨Or.inl rfl, ?_⟩ | refine ⟨Or.inr ⟨_, rfl⟩, ?_⟩ | refine ⟨fun _ => ?_, fun h => absurd h (by decide)⟩ | refine ⟨fun h => absurd h (by decide), fun _ => ?_⟩)
  refine cWQ.s (c100 d h4 (by simp only [List.length_append, List.length_cons, List.length_nil]; omega) (show 32 < 128 by decide)) hc4 (by omega) fun G5 h5 hc5 => ?_
  repeat (first | refine ⟨_, mg_Fs rfl rfl, ?_⟩ | refine ⟨Or.inl rfl, ?_⟩ | refine ⟨Or.inr ⟨_, rfl⟩, ?_⟩ | refine ⟨fun _ => ?_, fun h => absurd h (by decide)⟩ | refine ⟨fun h => absurd h (by decide), fun _ => ?_⟩)
  refine ⟨_, _, k, mg_Ai rfl (by decide), mg_ixN (by omega), by omega, ?_⟩
  rw [show G5.1 126 k = Int32.ofNat (gO (aG A) k) from (congrFun (hc5 126 (by decide)).1 _).trans e1]
  repeat (first | refine ⟨_, mg_Fs rfl rfl, ?_⟩ | refine ⟨Or.inl rfl, ?_⟩ | refine ⟨Or.inr ⟨_, rfl⟩, ?_⟩ | refine ⟨fun _ => ?_, fun h => absurd h (by decide)⟩ | refine ⟨fun h => absurd h (by decide), fun _ => ?_⟩)
  refine cWQ.s (c101 d h5 (by simp only [List.length_append, List.length_cons, List.length_nil]; omega) (show gO (aG A) k < 1000 by omega)) hc5 (by omega) fun G6 h6 hc6 => ?_
  repeat (first | refine ⟨_, mg_Fs rfl rfl, ?_⟩ | refine ⟨Or.inl rfl, ?_⟩ | refine ⟨Or.inr ⟨_, rfl⟩, ?_⟩ | refine ⟨fun _ => ?_, fun h => absurd h (by decide)⟩ | refine ⟨fun h => absurd h (by decide), fun _ => ?_⟩)
  refine cWQ.s (c100 d h6 (by simp only [List.length_append, List.length_cons, List.length_nil]; omega) (show 44 < 128 by decide)) hc6 (by omega) fun G7 h7 hc7 => ?_
  repeat (first | refine ⟨_, mg_Fs rfl rfl, ?_⟩ | refine ⟨Or.inl rfl, ?_⟩ | refine ⟨Or.inr ⟨_, rfl⟩, ?_⟩ | refine ⟨fun _ => ?_, fun h => absurd h (by decide)⟩ | refine ⟨fun h => absurd h (by decide), fun _ => ?_⟩)
  refine ⟨_, _, k, mg_Ai rfl (by decide), mg_ixN (by omega), by omega, ?_⟩
  rw [show G7.1 127 k = Int32.ofNat (gH (aG A) k) from (congrFun (hc7 127 (by decide)).1 _).trans e2]
  repeat (first | refine ⟨_, mg_Fs rfl rfl, ?_⟩ | refine ⟨Or.inl rfl, ?_⟩ | refine ⟨Or.inr ⟨_, rfl⟩, ?_⟩ | refine ⟨fun _ => ?_, fun h => absurd h (by decide)⟩ | refine ⟨fun h => absurd h (by decide), fun _ => ?_⟩)
  refine cWQ.s (c101 d h7 (by simp only [List.length_append, List.length_cons, List.length_nil]; omega) (show gH (aG A) k < 1000 by omega)) hc7 (by omega) fun G8 h8 hc8 => ?_
  refine ⟨rfl, rfl, ?_, hc8⟩
  unfold w_nd
  simp only [← List.append_assoc] at h8 ⊢
  exact h8
theorem cT.wr {G G' : mg_G} {S : a_S} (h : cT G S) (hc : mg_fr (fun a => a = 146 ∨ a = 147) G G') {w : List Nat} (hw : cWr G' w) : cT G' (sWS S w) := by
  obtain ⟨h1, h2, h3, h4, h5, h6, h7, h8⟩ := h
  have e3 := (hc 3 (by decide)).2.2.2.2
  exact ⟨h1.fr hc (fun a ha => by unfold kQ at ha; omega), h2, h3.fr hc (fun a ha => by omega), h4.fr hc (fun a ha => by omega), h5.fr hc (by decide) (by decide), ⟨by rw [e3]; exact h6.1, by rw [e3]; exact h6.2⟩, hw, h8.fr hc (by decide) (fun a ha => by unfold kG at ha; omega)⟩
theorem frW {G G' : mg_G} (h : mg_fr (fun a => a = 146 ∨ a = 147) G G') : cFr148 G G' := h.mono (fun a ha => by show a < 148; omega)
theorem c154 (d : Nat) (hT : cT G S) : mg_m (mg_KC scr t) (d + 20) 154 [.ref 0] G (cAp G (ex1 xI) (p328 S)) := by
  have h8 := hT.v8
  have hW := hT.2.1
  unfold p328 cAp
  have f0 : mg_fr (fun a => a = 146 ∨ a = 147) G (mg_sF G 146 1 (.int (Int32.ofInt 0))) := mg_fr.sF _ _ _ (Or.inl rfl)
  refine mg_me [10] 60 my_154 ms_154 (Nat.le_of_ble_eq_true rfl) ?_
  repeat (first | refine ⟨_, mg_Fs rfl rfl, ?_⟩ | refine ⟨Or.inl rfl, ?_⟩ | refine ⟨Or.inr ⟨_, rfl⟩, ?_⟩ | refine ⟨fun _ => ?_, fun h => absurd h (by decide)⟩ | refine ⟨fun h => absurd h (by decide), fun _ => ?_⟩)
  refine ⟨rfl, _, rfl, rfl, ?_⟩
  refine mg_loop (aV (sA S)) (fun k L G' => L = [some (.ref 0), some (.int (Int32.ofNat k))] ∧ cWr G' (w_or (sA S) k) ∧ mg_fr (fun a => a = 146 ∨ a = 147) G G') ?_ ?_ _ _ ⟨rfl, ⟨mg_sF_at _ _ _ _, (show ([] : List Nat).length ≤ 1600 from by decide), fun i c hi => by simp [w_or] at hi⟩, f0⟩
  · rintro k L G' hk ⟨rfl, h1, hc⟩ ih
    have hS : cS G' 30 (sA S) := (hT.wr hc h1).1
    have hle := w_or_le hW k (by omega)
    have nm : ∀ (G2 : mg_G) (l2 : List Nat), cWr G2 l2 → mg_fr (fun a => a = 146 ∨ a = 147) G G2 → l2.length + 7 ≤ 1600 → w_or (sA S) (k + 1) = l2 ++ aVN (sA S) (aD (sA S) k) → mg_wp (mg_KC scr t) mc_154 (d + 19) 34 [some (.ref 0), some (.int (Int32.ofNat k))] [] G2 (cA G (ex1 xI) (sWS S (w_or (sA S) (aV (sA S)))) (0, Int32.ofNat (w_or (sA S) (aV (sA S))).length)) := fun G2 l2 h2 hc2 hl2 he => by
      have hS2 : cS G2 30 (sA S) := (hT.wr hc2 h2).1
      have hv := hW.2.1.1 k hk
      have hnm := (hW.2.2.2.2.1 _ hv).1
      refine mg_go [10] 60 34 ms_154 ?_
      repeat (first | refine ⟨_, mg_Fs rfl rfl, ?_⟩ | refine ⟨Or.inl rfl, ?_⟩ | refine ⟨Or.inr ⟨_, rfl⟩, ?_⟩ | refine ⟨fun _ => ?_, fun h => absurd h (by decide)⟩ | refine ⟨fun h => absurd h (by decide), fun _ => ?_⟩)
      refine ⟨_, _, k, mg_Ai rfl (by decide), mg_ixN (by omega), by omega, ?_⟩
      rw [show G2.1 35 k = Int32.ofNat (aD (sA S) k) from hS2.2.2.2.2.2.2.1 k hk]
      refine ⟨_, _, aD (sA S) k, mg_Al rfl (by decide), mg_ixN (by omega), by omega, ?_⟩
      rw [show G2.2.1 34 (aD (sA S) k) = a_pk (aVN (sA S) (aD (sA S) k)) from hS2.2.2.2.2.2.1 _ hv]
      repeat (first | refine ⟨_, mg_Fs rfl rfl, ?_⟩ | refine ⟨Or.inl rfl, ?_⟩ | refine ⟨Or.inr ⟨_, rfl⟩, ?_⟩ | refine ⟨fun _ => ?_, fun h => absurd h (by decide)⟩ | refine ⟨fun h => absurd h (by decide), fun _ => ?_⟩)
      refine cWQ.s (c102 d h2 hl2 hnm) hc2 (by omega) fun G3 h3 hc3 => ?_
      exact ih _ _ ⟨by rw [mg_inc k] <;> rfl, by rw [he]; exact h3, hc3⟩
    refine mg_go [34] 60 10 ms_154 ?_
    repeat (first | refine ⟨_, mg_Fs rfl rfl, ?_⟩ | refine ⟨Or.inl rfl, ?_⟩ | refine ⟨Or.inr ⟨_, rfl⟩, ?_⟩ | refine ⟨fun _ => ?_, fun h => absurd h (by decide)⟩ | refine ⟨fun h => absurd h (by decide), fun _ => ?_⟩)
    refine ⟨_, mg_Fe hS.2.2.1 rfl rfl, fun h => absurd h (mg_nle hk (by omega)), fun _ => ?_⟩
    by_cases e : k = 0
    · subst e
      refine ⟨fun _ => nm G' _ h1 hc (by omega) ?_, fun h => absurd h (by decide)⟩
      show w_or (sA S) 0 ++ (if 0 < 0 then [44] else []) ++ _ = _
      rw [if_neg (by decide), List.append_nil]
    · refine ⟨fun h => absurd ((mg_leN (b := 0) (by omega) (by decide)).mp h) (by omega), fun _ => ?_⟩
      repeat (first | refine ⟨_, mg_Fs rfl rfl, ?_⟩ | refine ⟨Or.inl rfl, ?_⟩ | refine ⟨Or.inr ⟨_, rfl⟩, ?_⟩ | refine ⟨fun _ => ?_, fun h => absurd h (by decide)⟩ | refine ⟨fun h => absurd h (by decide), fun _ => ?_⟩)
      refine cWQ.s (c100 d h1 (by omega) (show 44 < 128 by decide)) hc (by omega) fun G3 h3 hc3 => ?_
      refine nm G3 _ h3 hc3 (by simp only [List.length_append, List.length_cons, List.length_nil]; omega) ?_
      show w_or (sA S) k ++ (if 0 < k then [44] else []) ++ _ = _
      rw [if_pos (by omega)]
  · rintro L G' ⟨rfl, h1, hc⟩
    have hT1 := hT.wr hc h1
    refine mg_go [] 60 10 ms_154 ?_
    repeat (first | refine ⟨_, mg_Fs rfl rfl, ?_⟩ | refine ⟨Or.inl rfl, ?_⟩ | refine ⟨Or.inr ⟨_, rfl⟩, ?_⟩ | refine ⟨fun _ => ?_, fun h => absurd h (by decide)⟩ | refine ⟨fun h => absurd h (by decide), fun _ => ?_⟩)
    refine ⟨_, mg_Fe hT1.1.2.2.1 rfl rfl, fun _ => ⟨_, mg_Fs rfl rfl, _, mg_Fe h1.1 rfl rfl, Or.inl rfl, cA_v hT1 (frW hc) rfl⟩, fun h => absurd h (Int32.not_lt.mpr (Int32.le_refl _))⟩
theorem c155 (d : Nat) (hT : cT G S) (i : Int32) : mg_m (mg_KC scr t) (d + 20) 155 [.ref 0, .int i] G (cA G (ex1 xI) S (q329 S i)) := by
  obtain ⟨h1, h2, h3⟩ := hT.2.2.2.2.2.2.1
  unfold q329
  cases hi : vi i (sW S).length with
  | none =>
    have hn := vi_n hi (by omega)
    refine mg_me [] 60 my_155 ms_155 (Nat.le_of_ble_eq_true rfl) ?_
    refine ⟨fun _ => ⟨Nat.le_of_ble_eq_true rfl, cA_x hT (by decide) rfl⟩, fun h0 => ?_⟩
    repeat (first | refine ⟨_, mg_Fs rfl rfl, ?_⟩ | refine ⟨Or.inl rfl, ?_⟩ | refine ⟨Or.inr ⟨_, rfl⟩, ?_⟩ | refine ⟨fun _ => ?_, fun h => absurd h (by decide)⟩ | refine ⟨fun h => absurd h (by decide), fun _ => ?_⟩)
    refine ⟨_, mg_Fe h1 rfl rfl, fun h => ?_, fun _ => ⟨Nat.le_of_ble_eq_true rfl, cA_x hT (by decide) rfl⟩⟩
    exact hn.elim (fun q => absurd q (Int32.not_lt.mpr h0)) (fun q => absurd h (Int32.not_lt.mpr q))
  | some k =>
    obtain ⟨rfl, hk⟩ := vi_s hi
    obtain ⟨c, hc⟩ : ∃ c, (sW S)[k]? = some c := ⟨_, List.getElem?_eq_getElem hk⟩
    refine mg_me [] 60 my_155 ms_155 (Nat.le_of_ble_eq_true rfl) ?_
    refine ⟨fun h => absurd h (mg_nl0 (by omega)), fun _ => ?_⟩
    repeat (first | refine ⟨_, mg_Fs rfl rfl, ?_⟩ | refine ⟨Or.inl rfl, ?_⟩ | refine ⟨Or.inr ⟨_, rfl⟩, ?_⟩ | refine ⟨fun _ => ?_, fun h => absurd h (by decide)⟩ | refine ⟨fun h => absurd h (by decide), fun _ => ?_⟩)
    refine ⟨_, mg_Fe h1 rfl rfl, fun _ => ?_, fun h => absurd h (mg_nle hk (by omega))⟩
    repeat (first | refine ⟨_, mg_Fs rfl rfl, ?_⟩ | refine ⟨Or.inl rfl, ?_⟩ | refine ⟨Or.inr ⟨_, rfl⟩, ?_⟩ | refine ⟨fun _ => ?_, fun h => absurd h (by decide)⟩ | refine ⟨fun h => absurd h (by decide), fun _ => ?_⟩)
    refine ⟨2, 1600, _, k, mg_Ab rfl (by decide), Or.inl rfl, mg_ixN (by omega), by omega, Or.inl rfl, cA_v hT (mg_fr.rf _ _) ?_⟩
    show _ = Int32.ofNat (((sW S)[k]?).getD 0)
    rw [hc]
    exact (h3 k c hc).1
theorem c153 (d : Nat) (hT : cT G S) (f : Int32) : mg_m (mg_KC scr t) (d + 20) 153 [.ref 0, .int f] G (cAp G (ex1 xI) (p327 S f)) := by
  have h12 := hT.f12
  have hW := hT.2.1
  unfold p327 cAp
  cases hf : vi f (aF (sA S)) with
  | none =>
    rw [pF_x hf]
    refine mg_me [] 60 my_153 ms_153 (Nat.le_of_ble_eq_true rfl) ?_
    repeat (first | refine ⟨_, mg_Fs rfl rfl, ?_⟩ | refine ⟨Or.inl rfl, ?_⟩ | refine ⟨Or.inr ⟨_, rfl⟩, ?_⟩ | refine ⟨fun _ => ?_, fun h => absurd h (by decide)⟩ | refine ⟨fun h => absurd h (by decide), fun _ => ?_⟩)
    refine mg_cx (c156x d hT hf) (by omega) ?_
    exact cA_x hT (by decide) rfl
  | some i =>
    obtain ⟨rfl, hi⟩ := vi_s hf
    rw [pF_y hf]
    have f0 : mg_fr (fun a => a = 146 ∨ a = 147) G (mg_sF G 146 1 (.int (Int32.ofInt 0))) := mg_fr.sF _ _ _ (Or.inl rfl)
    have hw0 : cWr (mg_sF G 146 1 (.int (Int32.ofInt 0))) [] := ⟨mg_sF_at _ _ _ _, by decide, fun i c hi => by simp at hi⟩
    have hT0 := hT.wr f0 hw0
    refine mg_me [31] 60 my_153 ms_153 (Nat.le_of_ble_eq_true rfl) ?_
    repeat (first | refine ⟨_, mg_Fs rfl rfl, ?_⟩ | refine ⟨Or.inl rfl, ?_⟩ | refine ⟨Or.inr ⟨_, rfl⟩, ?_⟩ | refine ⟨fun _ => ?_, fun h => absurd h (by decide)⟩ | refine ⟨fun h => absurd h (by decide), fun _ => ?_⟩)
    refine mg_cn (c156y d hT hf) (by omega) ?_
    repeat (first | refine ⟨_, mg_Fs rfl rfl, ?_⟩ | refine ⟨Or.inl rfl, ?_⟩ | refine ⟨Or.inr ⟨_, rfl⟩, ?_⟩ | refine ⟨fun _ => ?_, fun h => absurd h (by decide)⟩ | refine ⟨fun h => absurd h (by decide), fun _ => ?_⟩)
    refine ⟨rfl, _, rfl, rfl, ?_⟩
    repeat (first | refine ⟨_, mg_Fs rfl rfl, ?_⟩ | refine ⟨Or.inl rfl, ?_⟩ | refine ⟨Or.inr ⟨_, rfl⟩, ?_⟩ | refine ⟨fun _ => ?_, fun h => absurd h (by decide)⟩ | refine ⟨fun h => absurd h (by decide), fun _ => ?_⟩)
    refine mg_m_mono (c165 d hT0) (by omega) ?_
    rintro o q G1 ⟨rfl, rfl, hT1, hD, hF1⟩
    have hD : cDA G1 (sA S) := hD
    have hg := hD.2.1
    have h9 := hg.2.1
    have h1600 := w_fs_1600 hW hD.2.2.1 hg hi (hD.2.2.2.1 i hi).2
    have hr := hD.rt hi
    have hw1 : cWr G1 [] := hT1.2.2.2.2.2.2.1
    have k0 := c101 (scr := scr) (t := t) d hw1 (by decide) (show aR (sA S) i < 1000 by omega)
    rw [← (hD.2.2.2.1 i hi).1] at k0
    have hF0 : cFr148 G G1 := (frW f0).tr (fr0 hF1)
    repeat (first | refine ⟨_, mg_Fs rfl rfl, ?_⟩ | refine ⟨Or.inl rfl, ?_⟩ | refine ⟨Or.inr ⟨_, rfl⟩, ?_⟩ | refine ⟨fun _ => ?_, fun h => absurd h (by decide)⟩ | refine ⟨fun h => absurd h (by decide), fun _ => ?_⟩)
    refine ⟨_, _, i, mg_Ai rfl (by decide), mg_ixN (by omega), by omega, ?_⟩
    repeat (first | refine ⟨_, mg_Fs rfl rfl, ?_⟩ | refine ⟨Or.inl rfl, ?_⟩ | refine ⟨Or.inr ⟨_, rfl⟩, ?_⟩ | refine ⟨fun _ => ?_, fun h => absurd h (by decide)⟩ | refine ⟨fun h => absurd h (by decide), fun _ => ?_⟩)
    refine cWQ.s k0 (mg_fr.rf _ _) (by omega) fun G2 h2 hc2 => ?_
    have hN2 : 2 ≤ gN (aG (sA S)) := hg.1
    refine mg_loop (gN (aG (sA S)) - 2) (fun k L G' => L = [some (.ref 0), some (.int (Int32.ofNat i)), some (.int (Int32.ofNat (k + 2)))] ∧ cWr G' (w_fs (sA S) i k) ∧ mg_fr (fun a => a = 146 ∨ a = 147) G1 G') ?_ ?_ _ _ ⟨rfl, h2, hc2⟩
    · rintro k L G' hk ⟨rfl, h4, hc4⟩ ih
      have hD4 : cDA G' (sA S) := hD.fr hc4 (fun a ha => by unfold kG at ha; omega)
      have hk16 := h1600 (k + 1) (by omega)
      have hS4 : cS G' 30 (sA S) := (hT1.wr hc4 h4).1
      rw [← mg_inc (k + 2)] at ih
      refine mg_go [31] 60 31 ms_153 ?_
      repeat (first | refine ⟨_, mg_Fs rfl rfl, ?_⟩ | refine ⟨Or.inl rfl, ?_⟩ | refine ⟨Or.inr ⟨_, rfl⟩, ?_⟩ | refine ⟨fun _ => ?_, fun h => absurd h (by decide)⟩ | refine ⟨fun h => absurd h (by decide), fun _ => ?_⟩)
      refine ⟨_, mg_Fe hD4.1.1 rfl rfl, fun h => absurd h (mg_nle (by omega) (by omega)), fun _ => ?_⟩
      repeat (first | refine ⟨_, mg_Fs rfl rfl, ?_⟩ | refine ⟨Or.inl rfl, ?_⟩ | refine ⟨Or.inr ⟨_, rfl⟩, ?_⟩ | refine ⟨fun _ => ?_, fun h => absurd h (by decide)⟩ | refine ⟨fun h => absurd h (by decide), fun _ => ?_⟩)
      refine ⟨_, _, k + 2, mg_Ai rfl (by decide), mg_ixN (by omega), by omega, ?_⟩
      have hbt := hD4.2.2.2.2.2.1 (k + 2) (by omega) i (by omega)
      rw [decide_eq_true hi, Bool.true_and] at hbt
      have hz := a_bt_0 (G'.1 128 (k + 2)) i (by omega)
      rw [← mg_bq i (by omega)] at hz
      cases hb : g_rc (aG (sA S)) (aV (sA S)) (aR (sA S) i) (k + 2) with
      | false =>
        refine ⟨fun _ => ih _ _ ⟨rfl, ?_, hc4⟩, fun h => absurd (hz.mpr (hbt.trans hb)) h⟩
        show cWr G' (w_fs (sA S) i k ++ (if g_rc (aG (sA S)) (aV (sA S)) (aR (sA S) i) (k + 2) then w_nd (sA S) (k + 2) else []))
        rw [hb, if_neg (by decide), List.append_nil]
        exact h4
      | true =>
        have es : w_fs (sA S) i (k + 1) = w_fs (sA S) i k ++ w_nd (sA S) (k + 2) := by
          show w_fs (sA S) i k ++ (if g_rc (aG (sA S)) (aV (sA S)) (aR (sA S) i) (k + 2) then w_nd (sA S) (k + 2) else []) = _
          rw [hb, if_pos rfl]
        have hlen : (w_fs (sA S) i k).length + 20 ≤ 1600 := by
          have := h1600 k (by omega)
          omega
        refine ⟨fun h => ?_, fun _ => ?_⟩
        · have := hz.mp h
          rw [hbt, hb] at this
          cases this
        · repeat (first | refine ⟨_, mg_Fs rfl rfl, ?_⟩ | refine ⟨Or.inl rfl, ?_⟩ | refine ⟨Or.inr ⟨_, rfl⟩, ?_⟩ | refine ⟨fun _ => ?_, fun h => absurd h (by decide)⟩ | refine ⟨fun h => absurd h (by decide), fun _ => ?_⟩)
          refine cWQ.s (c171 d hS4 hW hD4 h4 hlen (by omega) (by omega)) hc4 (by omega) fun G5 h5 hc5 => ?_
          exact ih _ _ ⟨rfl, by rw [es]; exact h5, hc5⟩
    · rintro L G' ⟨rfl, h4, hc4⟩
      have hD4 : cDA G' (sA S) := hD.fr hc4 (fun a ha => by unfold kG at ha; omega)
      rw [show gN (aG (sA S)) - 2 + 2 = gN (aG (sA S)) by omega]
      refine mg_go [] 60 31 ms_153 ?_
      repeat (first | refine ⟨_, mg_Fs rfl rfl, ?_⟩ | refine ⟨Or.inl rfl, ?_⟩ | refine ⟨Or.inr ⟨_, rfl⟩, ?_⟩ | refine ⟨fun _ => ?_, fun h => absurd h (by decide)⟩ | refine ⟨fun h => absurd h (by decide), fun _ => ?_⟩)
      refine ⟨_, mg_Fe hD4.1.1 rfl rfl, fun _ => ⟨_, mg_Fs rfl rfl, _, mg_Fe h4.1 rfl rfl, Or.inl rfl, cA_v (hT1.wr hc4 h4) (hF0.tr (frW hc4)) rfl⟩, fun h => absurd h (Int32.not_lt.mpr (Int32.le_refl _))⟩
end KC
