/-! the check of a whole method. Q: the program's tables but the old arrays; stf, npf: static or not, how many parameters -/
abbrev mm_Q : Type := (Nat → Nat → Option Value) × (Nat → Option Value) × (Nat → Option Value) × (Nat → Option (List Value)) × (Nat → Nat → Option FieldType)
def mm_iB (MT : Nat → Option mm_M) (stf : Nat → Bool) (npf : Nat → Nat) (own : String) (cc : ByteArray) (pc a b ci d idx pl ps : Nat) : Bool := match MT a with
  | none => false
  | some t => (match d with
    | 0 => !stf a && b == npf a + 1 && mm_isd cc pc (.invokevirtual idx) 3 && mm_has pl (Cond.methodLink own idx t.2.2.1) && (if ci = 100 then mm_has ps (Cond.selects "java/lang/String" t.2.2.1 t.2.2.1) else (match vwCl[ci]? with
      | some (C, _, _) => mm_has ps (Cond.selects C t.2.2.1 t.2.2.1)
      | none => false))
    | 1 => stf a && b == npf a && mm_isd cc pc (.invokestatic idx) 3 && (mm_has pl (Cond.methodLink own idx t.2.2.1) || (t.2.2.2.2.2 == [] && mm_has pl (Cond.methodLinkNest own idx t.2.2.1 "DecisionDiagrams")))
    | 2 => !stf a && b == npf a + 1 && mm_isd cc pc (.invokespecial idx) 3 && t.2.2.1.name == "<init>" && decide (t.2.2.2.2.1 = none) && t.2.2.2.2.2 == [] && (mm_has pl (Cond.methodLink own idx t.2.2.1) || mm_has pl (Cond.methodLinkNest own idx t.2.2.1 "DecisionDiagrams"))
    | 3 => !stf a && b == npf a + 1 && mm_isd cc pc (.invokevirtual idx) 3 && t.2.2.2.2.2 == [] && mm_has pl (Cond.methodLink own idx mm_zn) && mm_has ps (Cond.selects RJ4 mm_zn t.2.2.1) && ci == 12 && npf a == 0
    | 4 => !stf a && b == npf a + 1 && mm_isd cc pc (.invokespecial idx) 3 && !(t.2.2.1.name == "<init>") && t.2.2.2.2.2 == [] && mm_has pl (Cond.methodLink own idx t.2.2.1) && mm_has ps (Cond.sameMethod t.2.2.1.cls t.2.2.1.cls t.2.2.1.name t.2.2.1.desc) && decide (Cond.superclass own t.2.2.1.cls ∈ mm_T) && ci == 12
    | _ => false)
theorem mm_iB_ok {MT : Nat → Option mm_M} {stf : Nat → Bool} {npf : Nat → Nat} (hM : ∀ y t, MT y = some t → mm_mE t (stf y) (npf y)) {own : String} {cc : ByteArray} {pc a b ci d idx pl ps : Nat} (h : mm_iB MT stf npf own cc pc a b ci d idx pl ps = true) : mm_iE MT own cc pc a b ci d := by
  unfold mm_iB at h
  split at h
  · cases h
  · rename_i t ht
    obtain ⟨m1, m2, m3, m4, m5, m6, m7⟩ := hM a t ht
    refine ⟨t, idx, npf a, ht, m1, m2, m3, m4, m7, ?_⟩
    split at h
    · simp only [Bool.and_eq_true, Bool.not_eq_true', beq_iff_eq] at h
      obtain ⟨⟨⟨⟨h1, h2⟩, h3⟩, h4⟩, h5⟩ := h
      rw [h1] at m5
      refine Or.inl ⟨rfl, h2, mm_isd_ok h3, mm_has_T h4, m5, ?_⟩
      split at h5
      · rename_i e
        exact ⟨_, mm_has_T h5, Or.inl ⟨e, rfl⟩⟩
      · rename_i e
        split at h5
        · rename_i C T N e2
          exact ⟨C, mm_has_T h5, Or.inr ⟨e, T, N, e2⟩⟩
        · cases h5
    · simp only [Bool.and_eq_true, Bool.or_eq_true, beq_iff_eq] at h
      obtain ⟨⟨⟨h1, h2⟩, h3⟩, h4⟩ := h
      rw [h1] at m5
      refine Or.inr (Or.inl ⟨rfl, h2, mm_isd_ok h3, m5, ?_⟩)
      rcases h4 with h4 | h4
      · exact Or.inl (mm_has_T h4)
      · exact Or.inr ⟨h4.1, _, mm_has_T h4.2⟩
    · simp only [Bool.and_eq_true, Bool.or_eq_true, Bool.not_eq_true', beq_iff_eq, decide_eq_true_eq] at h
      obtain ⟨⟨⟨⟨⟨⟨h1, h2⟩, h3⟩, h4⟩, h5⟩, h6⟩, h7⟩ := h
      rw [h1] at m5
      refine Or.inr (Or.inr (Or.inl ⟨rfl, h2, mm_isd_ok h3, h4, h5, h6, m5, ?_⟩))
      rcases h7 with h7 | h7
      · exact Or.inl (mm_has_T h7)
      · exact Or.inr ⟨_, mm_has_T h7⟩
    · simp only [Bool.and_eq_true, Bool.not_eq_true', beq_iff_eq] at h
      obtain ⟨⟨⟨⟨⟨⟨⟨h1, h2⟩, h3⟩, h4⟩, h5⟩, h6⟩, h7⟩, h8⟩ := h
      rw [h1] at m5
      exact Or.inr (Or.inr (Or.inr (Or.inl ⟨rfl, h2, mm_isd_ok h3, h4, mm_has_T h5, m5, mm_has_T h6, h7, h8⟩)))
    · simp only [Bool.and_eq_true, Bool.not_eq_true', beq_iff_eq, beq_eq_false_iff_ne, decide_eq_true_eq] at h
      obtain ⟨⟨⟨⟨⟨⟨⟨⟨h1, h2⟩, h3⟩, h4⟩, h5⟩, h6⟩, h7⟩, h8⟩, h9⟩ := h
      rw [h1] at m5
      exact Or.inr (Or.inr (Or.inr (Or.inr ⟨rfl, h2, mm_isd_ok h3, h4, h5, m5, mm_has_T h6, mm_has_T h7, h8, h9⟩)))
    · cases h
def mm_opB (Q : mm_Q) (MT : Nat → Option mm_M) (stf : Nat → Bool) (npf : Nat → Nat) (stn : Nat → String × String × String) (sts : String → Nat → Option (Nat × String)) (TX : List (String × Nat × Nat × String)) (XL : List (String × Nat × String)) (own yn : String) (cc : ByteArray) (hh : List (Nat × Nat × Nat × Nat)) (ret : Option FieldType) (pc len : Nat) (op : mm_Op) (idx x y : Nat) : Bool := match op with
  | (0, _, _, _, _, i, _) => mm_isd cc pc i len && len == mm_len i
  | (1, _, _, _, _, i, _) => mm_isd cc pc i len && (len == mm_len i || mm_isSw i)
  | (2, _, _, _, _, i, _) => mm_isd cc pc i len && len == mm_len i
  | (3, _, _, _, _, i, _) => mm_isd cc pc i len && len == mm_len i
  | (4, a, _, _, _, i, _) => mm_isd cc pc i len && len == mm_len i && mm_rB a i ret
  | (5, a, _, _, _, _, _) => (match Q.2.1 a with
    | some v => mm_kB own cc pc len v idx x
    | none => false)
  | (6, a, _, _, _, _, _) => (match sts own idx with
    | some (sid, _) => sid == a && ((mm_isd cc pc (.ldc idx) 2 && len == 2) || (mm_isd cc pc (.ldc_w idx) 3 && len == 3))
    | none => false)
  | (7, a, b, _, _, _, _) => len == 3 && mm_isd cc pc (.getfield idx) 3 && mm_fB own idx a b x
  | (8, a, b, _, _, _, _) => len == 3 && mm_isd cc pc (.putfield idx) 3 && (match Q.2.2.2.2 a b with
    | some ty => mm_wB own yn idx a b x ty
    | none => false)
  | (9, a, _, _, _, _, _) => len == 3 && mm_isd cc pc (.getstatic idx) 3 && mm_has x (Cond.fieldLink own idx (stn a).1 (stn a).2.1 (stn a).2.2)
  | (10, a, _, _, _, _, _) => len == 3 && decide (a < 2) && mm_isd cc pc (.getfield idx) 3 && mm_has x (Cond.fieldLink own idx "java/lang/String" (mm_sf a).1 (mm_sf a).2)
  | (11, a, p2, p3, _, _, _) => len == 3 && mm_isd cc pc (.new idx) 3 && (match Q.2.2.2.1 a with
    | some fs => mm_nB own idx a fs x p2 p3
    | none => false)
  | (12, a, _, _, _, _, _) => (decide (a < 4) && len == 2 && mm_isd cc pc (.newarray (mm_at9 a)) 2 && mm_has x (Cond.arrayClass (mm_ty a))) || (a == 5 && len == 3 && mm_isd cc pc (.anewarray idx) 3 && mm_has x (Cond.classLink own idx RX5))
  | (13, _, _, _, _, i, _) => mm_isd cc pc i len && len == mm_len i
  | (14, _, _, _, _, _, _) => len == 3 && mm_isd cc pc (.invokespecial idx) 3 && mm_has x (Cond.methodLink own idx objectInit)
  | (15, a, b, ci, d9, _, hs) => mm_iB MT stf npf own cc pc a b ci d9 idx x y && mm_hB XL own cc hh pc hs
  | (16, _, _, _, _, _, hs) => (match hs with
    | (E, _) :: _ => mm_tB sts own cc hh pc E idx x y TX
    | [] => true)
  | (17, _, _, _, _, _, _) => len == 3 && mm_isd cc pc (.invokestatic idx) 3 && mm_has x (Cond.methodLink own idx arraycopyName)
  | (18, _, _, _, _, _, _) => len == 3 && mm_isd cc pc (.invokestatic idx) 3 && mm_has x (Cond.methodLink own idx Lib.Math.max.name)
  | (19, _, _, _, _, _, _) => len == 3 && mm_isd cc pc (.invokestatic idx) 3 && mm_has x (Cond.methodLink own idx Lib.Math.min.name)
  | (20, a, _, _, _, _, _) => len == 6 && mm_isd cc pc (.invokevirtual idx) 3 && mm_isd cc (pc + 3) (.checkcast a) 3 && decide (∀ w ∈ mm_clW own idx a, w ∈ mm_T)
  | (99, _, _, _, _, _, _) => true
  | _ => false
theorem mm_opB_ok {Q : mm_Q} {MT : Nat → Option mm_M} {stf : Nat → Bool} {npf : Nat → Nat} {stn : Nat → String × String × String} {sts : String → Nat → Option (Nat × String)} {TX : List (String × Nat × Nat × String)} {XL : List (String × Nat × String)} (hM : ∀ y t, MT y = some t → mm_mE t (stf y) (npf y)) (hT : mm_TXok TX) (hX : mm_XLok XL) {own yn : String} {cc : ByteArray} {hh : List (Nat × Nat × Nat × Nat)} {ret : Option FieldType} {pc len : Nat} {op : mm_Op} {idx x y : Nat} (old : Nat → Option (Nat × vp_A)) (h : mm_opB Q MT stf npf stn sts TX XL own yn cc hh ret pc len op idx x y = true) : mm_opE (old, Q) MT stn sts own yn cc hh ret pc len op := by
  unfold mm_opB at h
  split at h
  case h_1 => simp only [Bool.and_eq_true, beq_iff_eq] at h; exact ⟨mm_isd_ok h.1, h.2⟩
  case h_2 => simp only [Bool.and_eq_true, Bool.or_eq_true, beq_iff_eq] at h; exact ⟨mm_isd_ok h.1, h.2⟩
  case h_3 => simp only [Bool.and_eq_true, beq_iff_eq] at h; exact ⟨mm_isd_ok h.1, h.2⟩
  case h_4 => simp only [Bool.and_eq_true, beq_iff_eq] at h; exact ⟨mm_isd_ok h.1, h.2⟩
  case h_5 => simp only [Bool.and_eq_true, beq_iff_eq] at h; exact ⟨mm_isd_ok h.1.1, h.1.2, mm_rB_ok h.2⟩
  case h_6 =>
    split at h
    · rename_i v e
      exact ⟨v, e, mm_kB_ok h⟩
    · cases h
  case h_7 =>
    split at h
    · rename_i sid tx e
      simp only [Bool.and_eq_true, Bool.or_eq_true, beq_iff_eq] at h
      obtain ⟨rfl, h⟩ := h
      refine ⟨idx, tx, e, ?_⟩
      rcases h with h | h
      · exact Or.inl ⟨mm_isd_ok h.1, h.2⟩
      · exact Or.inr ⟨mm_isd_ok h.1, h.2⟩
    · cases h
  case h_8 => simp only [Bool.and_eq_true, beq_iff_eq] at h; exact ⟨h.1.1, idx, mm_isd_ok h.1.2, mm_fB_ok h.2⟩
  case h_9 =>
    rw [Bool.and_eq_true, Bool.and_eq_true, beq_iff_eq] at h
    obtain ⟨⟨h1, h2⟩, h3⟩ := h
    split at h3
    · rename_i ty e
      exact ⟨h1, idx, ty, mm_isd_ok h2, e, mm_wB_ok h3⟩
    · cases h3
  case h_10 => simp only [Bool.and_eq_true, beq_iff_eq] at h; exact ⟨h.1.1, idx, mm_isd_ok h.1.2, mm_has_T h.2⟩
  case h_11 => simp only [Bool.and_eq_true, beq_iff_eq, decide_eq_true_eq] at h; exact ⟨h.1.1.1, h.1.1.2, idx, mm_isd_ok h.1.2, mm_has_T h.2⟩
  case h_12 =>
    rw [Bool.and_eq_true, Bool.and_eq_true, beq_iff_eq] at h
    obtain ⟨⟨h1, h2⟩, h3⟩ := h
    split at h3
    · rename_i fs e
      exact ⟨h1, idx, fs, mm_isd_ok h2, e, mm_nB_ok h3⟩
    · cases h3
  case h_13 =>
    simp only [Bool.and_eq_true, Bool.or_eq_true, beq_iff_eq, decide_eq_true_eq] at h
    rcases h with h | h
    · exact Or.inl ⟨h.1.1.1, h.1.1.2, mm_isd_ok h.1.2, mm_has_T h.2⟩
    · exact Or.inr ⟨h.1.1.1, h.1.1.2, idx, mm_isd_ok h.1.2, mm_has_T h.2⟩
  case h_14 => simp only [Bool.and_eq_true, beq_iff_eq] at h; exact ⟨mm_isd_ok h.1, h.2⟩
  case h_15 => simp only [Bool.and_eq_true, beq_iff_eq] at h; exact ⟨h.1.1, idx, mm_isd_ok h.1.2, mm_has_T h.2⟩
  case h_16 =>
    rw [Bool.and_eq_true] at h
    exact ⟨mm_iB_ok hM h.1, mm_hB_ok hX h.2⟩
  case h_17 =>
    intro E q r e
    split at h
    · rename_i E9 q9 r9
      cases e
      exact mm_tB_ok hT h
    · cases e
  case h_18 => simp only [Bool.and_eq_true, beq_iff_eq] at h; exact ⟨h.1.1, idx, mm_isd_ok h.1.2, mm_has_T h.2⟩
  case h_19 => simp only [Bool.and_eq_true, beq_iff_eq] at h; exact ⟨h.1.1, idx, mm_isd_ok h.1.2, mm_has_T h.2⟩
  case h_20 => simp only [Bool.and_eq_true, beq_iff_eq] at h; exact ⟨h.1.1, idx, mm_isd_ok h.1.2, mm_has_T h.2⟩
  case h_21 =>
    rw [Bool.and_eq_true, Bool.and_eq_true, Bool.and_eq_true, beq_iff_eq, decide_eq_true_eq] at h
    exact ⟨h.1.1.1, idx, mm_isd_ok h.1.1.2, mm_isd_ok h.1.2, h.2⟩
  case h_22 => trivial
  case h_23 => cases h
/-- rows with their hints -/
def mm_rowsB (f : Nat → Nat → mm_Op → Nat → Nat → Nat → Bool) : mm_Code → List (Nat × Nat × Nat) → Bool
  | [], _ => true
  | (pc, len, op) :: r, (i, x, y) :: h => f pc len op i x y && mm_rowsB f r h
  | _ :: _, [] => false
theorem mm_rowsB_ok {f : Nat → Nat → mm_Op → Nat → Nat → Nat → Bool} : ∀ {c : mm_Code} {h : List (Nat × Nat × Nat)}, mm_rowsB f c h = true → ∀ pc len op, (pc, len, op) ∈ c → ∃ i x y, f pc len op i x y = true
  | [], _, _, _, _, _, hm => by cases hm
  | (pc9, len9, op9) :: r, (i, x, y) :: h, hb, pc, len, op, hm => by
    simp only [mm_rowsB, Bool.and_eq_true] at hb
    rcases List.mem_cons.mp hm with e | hm
    · cases e
      exact ⟨i, x, y, hb.1⟩
    · exact mm_rowsB_ok hb.2 pc len op hm
  | _ :: _, [], hb, _, _, _, _ => by cases hb
def mm_tabB (Q : mm_Q) (MT : Nat → Option mm_M) (stf : Nat → Bool) (npf : Nat → Nat) (stn : Nat → String × String × String) (sts : String → Nat → Option (Nat × String)) (TX : List (String × Nat × Nat × String)) (XL : List (String × Nat × String)) (t : mm_M) (hints : List (Nat × Nat × Nat)) : Bool :=
  mm_rowsB (fun pc len op i x y => mm_opB Q MT stf npf stn sts TX XL t.2.2.1.cls t.2.2.1.name t.2.2.2.1 t.2.2.2.2.2 t.2.2.2.2.1 pc len op i x y) t.1 hints
theorem mm_tabB_ok {Q : mm_Q} {MT : Nat → Option mm_M} {stf : Nat → Bool} {npf : Nat → Nat} {stn : Nat → String × String × String} {sts : String → Nat → Option (Nat × String)} {TX : List (String × Nat × Nat × String)} {XL : List (String × Nat × String)} (hM : ∀ y t, MT y = some t → mm_mE t (stf y) (npf y)) (hT : mm_TXok TX) (hX : mm_XLok XL) {t : mm_M} {hints : List (Nat × Nat × Nat)} (old : Nat → Option (Nat × vp_A)) (h : mm_tabB Q MT stf npf stn sts TX XL t hints = true) : ∀ pc len op, t.1.lookup pc = some (len, op) → mm_opE (old, Q) MT stn sts t.2.2.1.cls t.2.2.1.name t.2.2.2.1 t.2.2.2.2.2 t.2.2.2.2.1 pc len op := by
  intro pc len op hlk
  obtain ⟨i, x, y, h9⟩ := mm_rowsB_ok h pc len op (mm_lookup_mem hlk)
  exact mm_opB_ok hM hT hX old h9
