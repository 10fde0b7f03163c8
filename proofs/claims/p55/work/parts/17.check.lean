/-! a program that checks a method's row of the table -/
def mm_has (i : Nat) (w : Cond) : Bool := decide (lx_tbl[i]? = some w) && (goodWord w || mm_nest w)
theorem mm_has_T {i : Nat} {w : Cond} (h : mm_has i w = true) : w ∈ mm_T := by
  simp only [mm_has, Bool.and_eq_true, decide_eq_true_eq] at h
  exact List.mem_filter.mpr ⟨List.mem_of_getElem? h.1, h.2⟩
def mm_isd (cc : ByteArray) (pc : Nat) (i : Instr) (len : Nat) : Bool := match decode cc pc with
  | .ok (j, n) => decide (j = i) && n == len
  | _ => false
theorem mm_isd_ok {cc : ByteArray} {pc : Nat} {i : Instr} {len : Nat} (h : mm_isd cc pc i len = true) : decode cc pc = .ok (i, len) := by
  unfold mm_isd at h
  split at h
  · rename_i j n e
    simp only [Bool.and_eq_true, beq_iff_eq, decide_eq_true_eq] at h
    rw [e, h.1, h.2]
  · cases h
/-- tables that the checks lean on: fields, exceptions' class links; methods' own facts -/
def mm_fB (own : String) (idx ci k pos : Nat) : Bool := match vwCl[ci]? with
  | some (_, T, N) => decide (k < N) && mm_has pos (Cond.fieldLink own idx (T k).1 (T k).2.1 (T k).2.2.1)
  | none => false
theorem mm_fB_ok {own : String} {idx ci k pos : Nat} (h : mm_fB own idx ci k pos = true) : mm_fE own idx ci k := by
  unfold mm_fB at h
  split at h
  · rename_i C T N e
    simp only [Bool.and_eq_true, decide_eq_true_eq] at h
    exact ⟨C, T, N, e, h.1, Or.inl (mm_has_T h.2)⟩
  · cases h
def mm_wB (own yn : String) (idx ci k pos : Nat) (ty : FieldType) : Bool := match vwCl[ci]? with
  | some (_, T, N) => decide (k < N) && mm_has pos (Cond.fieldLink own idx (T k).1 (T k).2.1 (T k).2.2.1) && decide (parseFieldDescriptor (T k).2.2.1 = some ty) && (!(T k).2.2.2 || (yn == "<init>" && (T k).1 == own))
  | none => false
theorem mm_wB_ok {own yn : String} {idx ci k pos : Nat} {ty : FieldType} (h : mm_wB own yn idx ci k pos ty = true) : mm_fW own yn idx ci k ty := by
  unfold mm_wB at h
  split at h
  · rename_i C T N e
    simp only [Bool.and_eq_true, Bool.or_eq_true, decide_eq_true_eq, Bool.not_eq_true', beq_iff_eq] at h
    obtain ⟨⟨⟨h1, h2⟩, h3⟩, h4⟩ := h
    refine ⟨C, T, N, e, h1, h3, ?_⟩
    cases hf : (T k).2.2.2 with
    | false => exact Or.inl ⟨rfl, Or.inl (mm_has_T h2)⟩
    | true =>
      rcases h4 with h4 | h4
      · rw [hf] at h4; cases h4
      · exact Or.inr ⟨rfl, h4.1, h4.2, mm_has_T h2⟩
  · cases h
def mm_kB (own : String) (cc : ByteArray) (pc len : Nat) (v : Value) (idx pos : Nat) : Bool := match v with
  | .int x => mm_has pos (Cond.constant own idx x) && ((mm_isd cc pc (.ldc idx) 2 && len == 2) || (mm_isd cc pc (.ldc_w idx) 3 && len == 3))
  | .long x => mm_has pos (Cond.constantLong own idx x) && mm_isd cc pc (.ldc2_w idx) 3 && len == 3
  | .double x => mm_has pos (Cond.constantDouble own idx x) && mm_isd cc pc (.ldc2_w idx) 3 && len == 3
  | _ => false
theorem mm_kB_ok {own : String} {cc : ByteArray} {pc len : Nat} {v : Value} {idx pos : Nat} (h : mm_kB own cc pc len v idx pos = true) : mm_kE own cc pc len v := by
  unfold mm_kB at h
  split at h
  · rename_i x
    simp only [Bool.and_eq_true, Bool.or_eq_true, beq_iff_eq] at h
    refine Or.inl ⟨idx, x, rfl, mm_has_T h.1, ?_⟩
    rcases h.2 with h2 | h2
    · exact Or.inl ⟨mm_isd_ok h2.1, h2.2⟩
    · exact Or.inr ⟨mm_isd_ok h2.1, h2.2⟩
  · rename_i x
    simp only [Bool.and_eq_true, beq_iff_eq] at h
    exact Or.inr (Or.inl ⟨idx, x, rfl, mm_has_T h.1.1, mm_isd_ok h.1.2, h.2⟩)
  · rename_i x
    simp only [Bool.and_eq_true, beq_iff_eq] at h
    exact Or.inr (Or.inr ⟨idx, x, rfl, mm_has_T h.1.1, mm_isd_ok h.1.2, h.2⟩)
  · cases h
def mm_rB (a : Nat) (i : Instr) (ret : Option FieldType) : Bool := match i with
  | .ireturn => decide (ret = some (mm_rt a))
  | .lreturn => decide (ret = some .long)
  | .dreturn => decide (ret = some .double)
  | .areturn => (match ret with
    | some (.object _) => true
    | some (.array _) => true
    | _ => false)
  | .return_ => decide (ret = none)
  | _ => false
theorem mm_rB_ok {a : Nat} {i : Instr} {ret : Option FieldType} (h : mm_rB a i ret = true) : mm_rE a i ret := by
  cases i <;> simp only [mm_rB, decide_eq_true_eq, Bool.false_eq_true] at h
  case ireturn => exact h
  case lreturn => exact h
  case dreturn => exact h
  case return_ => exact h
  case areturn =>
    split at h
    · exact Or.inl ⟨_, rfl⟩
    · exact Or.inr ⟨_, rfl⟩
    · cases h
/-- a new object's first values: rT its class's field types -/
def mm_nB (own : String) (idx ci : Nat) (fs : List Value) (p1 p2 p3 : Nat) : Bool := match vwCl[ci]? with
  | some (C, T, N) => decide (fs.length = N) && (List.range N).all (fun k => decide ((parseFieldDescriptor (T k).2.2.1).map defaultValue = some (fs.getD k .null))) && fs.all mm_plain && mm_has p1 (Cond.classLink own idx C) && mm_has p2 (Cond.instantiable C N) && mm_has p3 (Cond.initialized C)
  | none => false
theorem mm_nB_ok {own : String} {idx ci : Nat} {fs : List Value} {p1 p2 p3 : Nat} (h : mm_nB own idx ci fs p1 p2 p3 = true) : mm_nE own idx ci fs := by
  unfold mm_nB at h
  split at h
  · rename_i C T N e
    simp only [Bool.and_eq_true, decide_eq_true_eq, List.all_eq_true, List.mem_range] at h
    obtain ⟨⟨⟨⟨⟨h1, h2⟩, h3⟩, h4⟩, h5⟩, h6⟩ := h
    obtain ⟨-, ⟨ty0, f2⟩, -⟩ := mm_cls e
    refine ⟨C, T, N, ty0, e, f2, h1, fun k hk => ?_, List.all_eq_true.mpr h3, mm_has_T h4, mm_has_T h5, mm_has_T h6⟩
    have h9 := h2 k hk
    rw [f2 k hk, Option.map_some] at h9
    exact Option.some.inj h9
  · cases h
def mm_tB (sts : String → Nat → Option (Nat × String)) (own : String) (cc : ByteArray) (hh : List (Nat × Nat × Nat × Nat)) (pc : Nat) (E : String) (ik is ic : Nat) (TX : List (String × Nat × Nat × String)) : Bool :=
  TX.contains (own, ik, ic, E) && (sts own is).isSome && mm_isd cc pc (.new ik) 3 && mm_isd cc (pc + 3) .dup 1 &&
  ((mm_isd cc (pc + 4) (.ldc is) 2 && mm_isd cc (pc + 6) (.invokespecial ic) 3 && mm_isd cc (pc + 9) .athrow 1 && (tableOf hh).all (fun x => !covers x (pc + 9))) ||
   (mm_isd cc (pc + 4) (.ldc_w is) 3 && mm_isd cc (pc + 7) (.invokespecial ic) 3 && mm_isd cc (pc + 10) .athrow 1 && (tableOf hh).all (fun x => !covers x (pc + 10))))
/-- the rows of throws: own class, new's entry, the constructor's entry, the class -/
def mm_TXok (TX : List (String × Nat × Nat × String)) : Prop := ∀ q ∈ TX, Cond.classLink q.1 q.2.1 q.2.2.2 ∈ mm_T ∧ Cond.initialized q.2.2.2 ∈ mm_T ∧ (∀ w ∈ vx_atS q.1 q.2.2.1 q.2.2.2 ["java/lang/RuntimeException", "java/lang/Exception"], w ∈ mm_T) ∧ Bundle.fit q.2.2.2 = true
theorem mm_tB_ok {sts : String → Nat → Option (Nat × String)} {own : String} {cc : ByteArray} {hh : List (Nat × Nat × Nat × Nat)} {pc : Nat} {E : String} {ik is ic : Nat} {TX : List (String × Nat × Nat × String)} (hT : mm_TXok TX) (h : mm_tB sts own cc hh pc E ik is ic TX = true) : mm_tE sts own cc hh pc E := by
  simp only [mm_tB, Bool.and_eq_true, Bool.or_eq_true, List.contains_iff_mem, List.all_eq_true, Bool.not_eq_true'] at h
  obtain ⟨⟨⟨⟨h1, h2⟩, h3⟩, h4⟩, h5⟩ := h
  obtain ⟨g1, g2, g3, g4⟩ := hT _ h1
  obtain ⟨⟨sid, tx⟩, hs⟩ := Option.isSome_iff_exists.mp h2
  refine ⟨ik, is, ic, sid, tx, g1, g2, hs, g3, g4, mm_isd_ok h3, mm_isd_ok h4, ?_⟩
  rcases h5 with ⟨⟨⟨a1, a2⟩, a3⟩, a4⟩ | ⟨⟨⟨a1, a2⟩, a3⟩, a4⟩
  · exact Or.inl ⟨mm_isd_ok a1, mm_isd_ok a2, mm_isd_ok a3, a4⟩
  · exact Or.inr ⟨mm_isd_ok a1, mm_isd_ok a2, mm_isd_ok a3, a4⟩
/-- handlers -/
def mm_aB (cc : ByteArray) (h len k : Nat) : Bool := (mm_isd cc h (.astore k) 2 && len == 2) || (match k with
  | 0 => mm_isd cc h (.astore_n 0) 1 && len == 1
  | 1 => mm_isd cc h (.astore_n 1) 1 && len == 1
  | 2 => mm_isd cc h (.astore_n 2) 1 && len == 1
  | 3 => mm_isd cc h (.astore_n 3) 1 && len == 1
  | _ => false)
theorem mm_aB_ok {cc : ByteArray} {h len k : Nat} (hh : mm_aB cc h len k = true) : mm_astore cc h len k := by
  simp only [mm_aB, Bool.or_eq_true, Bool.and_eq_true, beq_iff_eq] at hh
  rcases hh with hh | hh
  · exact Or.inl ⟨mm_isd_ok hh.1, hh.2⟩
  · split at hh
    · simp only [Bool.and_eq_true, beq_iff_eq] at hh; exact Or.inr ⟨0, rfl, mm_isd_ok hh.1, hh.2⟩
    · simp only [Bool.and_eq_true, beq_iff_eq] at hh; exact Or.inr ⟨1, rfl, mm_isd_ok hh.1, hh.2⟩
    · simp only [Bool.and_eq_true, beq_iff_eq] at hh; exact Or.inr ⟨2, rfl, mm_isd_ok hh.1, hh.2⟩
    · simp only [Bool.and_eq_true, beq_iff_eq] at hh; exact Or.inr ⟨3, rfl, mm_isd_ok hh.1, hh.2⟩
    · cases hh
/-- class links of exceptions, castable to themselves -/
def mm_XLok (XL : List (String × Nat × String)) : Prop := ∀ q ∈ XL, Cond.classLink q.1 q.2.1 q.2.2 ∈ mm_T ∧ Cond.castable q.2.2 q.2.2 ∈ mm_T ∧ q.2.2 ∈ mm_ex
/-- the first row of the table that takes E: the rows ahead don't cover, or name another exception -/
def mm_h1B (XL : List (String × Nat × String)) (own : String) (pc : Nat) (E : String) (h : Nat) : List ExceptionTableEntry → Bool
  | [] => false
  | x :: r => (covers x pc && x.catchType != 0 && XL.contains (own, x.catchType, E) && x.handlerPc == h) ||
    ((!covers x pc || (x.catchType != 0 && mm_ex.contains E && mm_ex.any (fun nm => nm != E && XL.contains (own, x.catchType, nm)))) && mm_h1B XL own pc E h r)
theorem mm_h1B_ok {XL : List (String × Nat × String)} (hX : mm_XLok XL) {own : String} {pc : Nat} {E : String} {h : Nat} : ∀ {T : List ExceptionTableEntry}, mm_h1B XL own pc E h T = true → ∃ (pre : List ExceptionTableEntry) (x : ExceptionTableEntry) (suf : List ExceptionTableEntry) (name : String), T = pre ++ x :: suf ∧
    (∀ z ∈ pre, covers z pc = false ∨ (z.catchType ≠ 0 ∧ ∃ nm : String, Cond.classLink own z.catchType nm ∈ mm_T ∧ E ∈ mm_ex ∧ nm ∈ mm_ex ∧ E ≠ nm)) ∧
    covers x pc = true ∧ x.catchType ≠ 0 ∧ Cond.classLink own x.catchType name ∈ mm_T ∧ Cond.castable E name ∈ mm_T ∧ x.handlerPc = h
  | [], hh => by cases hh
  | x :: r, hh => by
    rw [mm_h1B, Bool.or_eq_true] at hh
    rcases hh with hh | hh
    · simp only [Bool.and_eq_true, bne_iff_ne, List.contains_iff_mem, beq_iff_eq] at hh
      obtain ⟨⟨⟨h1, h2⟩, h3⟩, h4⟩ := hh
      obtain ⟨g1, g2, -⟩ := hX _ h3
      exact ⟨[], x, r, E, rfl, (fun z hz => by cases hz), (by rw [Bool.and_eq_true]; exact h1), h2, g1, g2, h4⟩
    · rw [Bool.and_eq_true] at hh
      obtain ⟨hh, hr⟩ := hh
      obtain ⟨pre, y, suf, name, e1, e2, e3⟩ := mm_h1B_ok hX hr
      refine ⟨x :: pre, y, suf, name, by rw [e1]; rfl, fun z hz => ?_, e3⟩
      rcases List.mem_cons.mp hz with rfl | hz
      · rw [Bool.or_eq_true] at hh
        rcases hh with hh | hh
        · left
          rw [Bool.not_eq_true'] at hh
          exact hh
        · right
          simp only [Bool.and_eq_true, bne_iff_ne, List.contains_iff_mem, List.any_eq_true] at hh
          obtain ⟨⟨h1, h2⟩, nm, h3, h4, h5⟩ := hh
          exact ⟨h1, nm, (hX _ h5).1, h2, h3, fun q => h4 q.symm⟩
      · exact e2 z hz
def mm_hB (XL : List (String × Nat × String)) (own : String) (cc : ByteArray) (hh : List (Nat × Nat × Nat × Nat)) (pc : Nat) (hs : List (String × Nat × Nat × Nat)) : Bool :=
  (hs != [] || (tableOf hh).all (fun x => !covers x pc)) && hs.all (fun q => mm_h1B XL own pc q.1 q.2.1 (tableOf hh) && mm_aB cc q.2.1 q.2.2.1 q.2.2.2)
theorem mm_lookup_mem {α β : Type} [BEq α] [LawfulBEq α] {a : α} {b : β} : ∀ {l : List (α × β)}, l.lookup a = some b → (a, b) ∈ l
  | [], h => by cases h
  | (x, y) :: r, h => by
    rw [List.lookup_cons] at h
    split at h
    · rename_i e
      cases h
      rw [eq_of_beq e]
      exact List.mem_cons_self
    · exact List.mem_cons_of_mem _ (mm_lookup_mem h)
theorem mm_hB_ok {XL : List (String × Nat × String)} (hX : mm_XLok XL) {own : String} {cc : ByteArray} {hh : List (Nat × Nat × Nat × Nat)} {pc : Nat} {hs : List (String × Nat × Nat × Nat)} (h : mm_hB XL own cc hh pc hs = true) : mm_hE own cc hh pc hs := by
  rw [mm_hB, Bool.and_eq_true, Bool.or_eq_true] at h
  obtain ⟨h1, h2⟩ := h
  refine ⟨fun e x hx => ?_, fun E h9 len k hlk => ?_⟩
  · rcases h1 with h1 | h1
    · rw [e] at h1; cases h1
    · have h3 := List.all_eq_true.mp h1 x hx
      rw [Bool.not_eq_true'] at h3
      exact h3
  · have h3 := List.all_eq_true.mp h2 _ (mm_lookup_mem hlk)
    rw [Bool.and_eq_true] at h3
    obtain ⟨pre, x, suf, name, e1, e2, e3, e4, e5, e6, e7⟩ := mm_h1B_ok hX h3.1
    exact ⟨pre, x, suf, name, e1, e2, e3, e4, e5, e6, e7, mm_aB_ok h3.2⟩
/-- a method's own facts: its words' places in the tables (code, initialized, static or instance), how many parameters -/
def mm_mB (t : mm_M) (p2 p3 : Nat) (st : Bool) (np : Nat) : Bool := decide (t.2.1 ≤ 30) && mm_has p2 (Cond.initialized t.2.2.1.cls) && t.2.2.1.cls != "java/lang/invoke/MethodHandle" && t.2.2.1.cls != "java/lang/invoke/VarHandle" && mm_has p3 (if st then Cond.static t.2.2.1 else Cond.instanceMethod t.2.2.1) && plainName t.2.2.1.cls && decide ((parseMethodDescriptor t.2.2.1.desc).map (fun d => d.parameters.length) = some np)
def mm_mE (t : mm_M) (st : Bool) (np : Nat) : Prop := mm_cw t ∈ mm_gw ∧ t.2.1 ≤ 30 ∧ Cond.initialized t.2.2.1.cls ∈ mm_T ∧ (t.2.2.1.cls ≠ "java/lang/invoke/MethodHandle" ∧ t.2.2.1.cls ≠ "java/lang/invoke/VarHandle") ∧ (if st then Cond.static t.2.2.1 else Cond.instanceMethod t.2.2.1) ∈ mm_T ∧ plainName t.2.2.1.cls = true ∧ (parseMethodDescriptor t.2.2.1.desc).map (fun d => d.parameters.length) = some np
theorem mm_mB_ok {t : mm_M} {p2 p3 np : Nat} {st : Bool} (hw : mm_cw t ∈ mm_gw) (h : mm_mB t p2 p3 st np = true) : mm_mE t st np := by
  simp only [mm_mB, Bool.and_eq_true, decide_eq_true_eq, bne_iff_ne] at h
  obtain ⟨⟨⟨⟨⟨⟨h3, h4⟩, h5⟩, h6⟩, h7⟩, h8⟩, h9⟩ := h
  exact ⟨hw, h3, mm_has_T h4, ⟨h5, h6⟩, mm_has_T h7, h8, h9⟩
theorem mm_gw_of {w : Cond} {i : Nat} (h : tables_1[i]? = some w) (hg : goodWord w = true) : w ∈ mm_gw := List.mem_filter.mpr ⟨List.mem_append_right _ (List.mem_append_right _ (List.mem_of_getElem? h)), hg⟩
