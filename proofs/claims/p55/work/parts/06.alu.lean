/-! a mini value, as the machine has it: rho gives a place's address; opq what is not looked at -/
def mm_v (rho : Nat → Nat) (opq : Nat → Value) (v : Value) : Value := match v with
  | .ref k => .ref (rho k)
  | .retAddr k => opq k
  | w => w
def mm_opq (opq : Nat → Value) : Prop := ∀ k, opq k = .null ∨ ∃ a, opq k = .ref a
theorem mm_v_cat {rho : Nat → Nat} {opq : Nat → Value} (ho : mm_opq opq) (v : Value) : (mm_v rho opq v).category = v.category := by
  cases v <;> try rfl
  case retAddr k =>
    rcases ho k with h | ⟨a, h⟩ <;> (show (opq k).category = 1) <;> rw [h] <;> rfl
/-- an instruction's length, as the rows have it -/
def mm_len (i : Instr) : Nat := match i with
  | .bipush _ => 2
  | .sipush _ => 3
  | .ifCond _ _ => 3
  | .if_icmp _ _ => 3
  | .ifnull _ => 3
  | .ifnonnull _ => 3
  | .goto _ => 3
  | .iload _ => 2
  | .lload _ => 2
  | .dload _ => 2
  | .aload _ => 2
  | .istore _ => 2
  | .lstore _ => 2
  | .dstore _ => 2
  | .astore _ => 2
  | .iinc _ _ => 3
  | .newarray _ => 2
  | .anewarray _ => 3
  | _ => 1
theorem mm_ii_inv {f : Int32 → Int32 → Int32} {S S' : List Value} (h : mm_ii f S = some S') : ∃ x y r, S = .int y :: .int x :: r ∧ S' = .int (f x y) :: r := by
  unfold mm_ii at h
  split at h
  · exact ⟨_, _, _, rfl, (Option.some.inj h).symm⟩
  · cases h
theorem mm_iz_inv {f : Int32 → Int32 → Int32} {S S' : List Value} (h : mm_iz f S = some S') : ∃ x y r, S = .int y :: .int x :: r ∧ ¬ y = 0 ∧ S' = .int (f x y) :: r := by
  unfold mm_iz at h
  split at h
  · split at h
    · cases h
    · rename_i h0
      exact ⟨_, _, _, rfl, h0, (Option.some.inj h).symm⟩
  · cases h
theorem mm_jj_inv {f : Int64 → Int64 → Int64} {S S' : List Value} (h : mm_jj f S = some S') : ∃ x y r, S = .long y :: .long x :: r ∧ S' = .long (f x y) :: r := by
  unfold mm_jj at h
  split at h
  · exact ⟨_, _, _, rfl, (Option.some.inj h).symm⟩
  · cases h
theorem mm_ji_inv {f : Int64 → Int32 → Int64} {S S' : List Value} (h : mm_ji f S = some S') : ∃ x y r, S = .int y :: .long x :: r ∧ S' = .long (f x y) :: r := by
  unfold mm_ji at h
  split at h
  · exact ⟨_, _, _, rfl, (Option.some.inj h).symm⟩
  · cases h
theorem mm_dd_inv {f : UInt64 → UInt64 → UInt64} {S S' : List Value} (h : mm_dd f S = some S') : ∃ x y r, S = .double y :: .double x :: r ∧ vf_n64 (f x y) ∧ S' = .double (f x y) :: r := by
  unfold mm_dd at h
  split at h
  · split at h
    · rename_i h0
      exact ⟨_, _, _, rfl, h0, (Option.some.inj h).symm⟩
    · cases h
  · cases h
theorem mm_i_inv {f : Int32 → Value} {S S' : List Value} (h : mm_i f S = some S') : ∃ x r, S = .int x :: r ∧ S' = f x :: r := by
  unfold mm_i at h
  split at h
  · exact ⟨_, _, rfl, (Option.some.inj h).symm⟩
  · cases h
theorem mm_j_inv {f : Int64 → Value} {S S' : List Value} (h : mm_j f S = some S') : ∃ x r, S = .long x :: r ∧ S' = f x :: r := by
  unfold mm_j at h
  split at h
  · exact ⟨_, _, rfl, (Option.some.inj h).symm⟩
  · cases h
section MMA
variable {p : Program} {l : Launch} {e : Env} {R : Room} {s : State} {m : MethodId} {args : Array Value} {below : List Frame} {meth : Method} {c : Code} {H : Heap} {locs : List Loc} {cells slots : Nat} {Q : State → Prop}
variable {cc : ByteArray} {pc len : Nat} {ls : Array Slot} {rho : Nat → Nat} {opq : Nat → Value}
theorem mm_alu_sim (hx : p.tables.exec = Jvm.exec) (hb : c.code = cc) (ho : mm_opq opq) {i : Instr} {S S' : List Value} (h : mm_alu i S = some S') (hd : decode cc pc = .ok (i, len)) (hl : len = mm_len i)
    (k : W p l e R s m args below meth c H locs cells slots Q (F0 m (pc + len) ls (S'.map (mm_v rho opq)))) : W p l e R s m args below meth c H locs cells slots Q (F0 m pc ls (S.map (mm_v rho opq))) := by
  subst hl
  cases i <;> simp only [mm_alu, reduceCtorEq] at h
  case iconst n => cases h; exact lv_iconst hx hb hd rfl k
  case bipush n => cases h; exact lv_bipush hx hb hd rfl k
  case sipush n => cases h; exact lv_sipush hx hb hd rfl k
  case lconst n => cases h; exact lv_lconst hx hb hd rfl k
  case aconst_null => cases h; exact lv_null hx hb hd k
  case dconst n =>
    split at h
    · rename_i h0
      cases h
      have e0 : n = 0 := Fin.ext h0
      subst e0
      exact lv_dconst0 hx hb hd k
    · split at h
      · rename_i h0
        cases h
        have e0 : n = 1 := Fin.ext h0
        subst e0
        exact lv_dconst1 hx hb hd k
      · cases h
  case iadd => obtain ⟨x, y, r, rfl, rfl⟩ := mm_ii_inv h; exact lv_iadd hx hb hd k
  case isub => obtain ⟨x, y, r, rfl, rfl⟩ := mm_ii_inv h; exact lv_isub hx hb hd k
  case imul => obtain ⟨x, y, r, rfl, rfl⟩ := mm_ii_inv h; exact lv_imul hx hb hd k
  case iand => obtain ⟨x, y, r, rfl, rfl⟩ := mm_ii_inv h; exact lv_iand hx hb hd k
  case ior => obtain ⟨x, y, r, rfl, rfl⟩ := mm_ii_inv h; exact lv_ior hx hb hd k
  case ixor => obtain ⟨x, y, r, rfl, rfl⟩ := mm_ii_inv h; exact lv_ixor hx hb hd k
  case ishl => obtain ⟨x, y, r, rfl, rfl⟩ := mm_ii_inv h; exact lv_ishl hx hb hd k
  case ishr => obtain ⟨x, y, r, rfl, rfl⟩ := mm_ii_inv h; exact lv_ishr hx hb hd k
  case iushr => obtain ⟨x, y, r, rfl, rfl⟩ := mm_ii_inv h; exact lv_iushr hx hb hd rfl k
  case idiv => obtain ⟨x, y, r, rfl, h0, rfl⟩ := mm_iz_inv h; exact lv_idiv hx hb hd h0 k
  case irem => obtain ⟨x, y, r, rfl, h0, rfl⟩ := mm_iz_inv h; exact lv_irem hx hb hd h0 k
  case ineg => obtain ⟨x, r, rfl, rfl⟩ := mm_i_inv h; exact lv_ineg hx hb hd k
  case ladd => obtain ⟨x, y, r, rfl, rfl⟩ := mm_jj_inv h; exact lv_ladd hx hb hd k
  case lsub => obtain ⟨x, y, r, rfl, rfl⟩ := mm_jj_inv h; exact lv_lsub hx hb hd k
  case lmul => obtain ⟨x, y, r, rfl, rfl⟩ := mm_jj_inv h; exact lv_lmul hx hb hd k
  case land => obtain ⟨x, y, r, rfl, rfl⟩ := mm_jj_inv h; exact lv_land hx hb hd k
  case lor => obtain ⟨x, y, r, rfl, rfl⟩ := mm_jj_inv h; exact lv_lor hx hb hd k
  case lxor => obtain ⟨x, y, r, rfl, rfl⟩ := mm_jj_inv h; exact lv_lxor hx hb hd k
  case lneg => obtain ⟨x, r, rfl, rfl⟩ := mm_j_inv h; exact lv_lneg hx hb hd k
  case lshl => obtain ⟨x, y, r, rfl, rfl⟩ := mm_ji_inv h; exact lv_lshl hx hb hd rfl k
  case lshr => obtain ⟨x, y, r, rfl, rfl⟩ := mm_ji_inv h; exact lv_lshr hx hb hd rfl k
  case lushr => obtain ⟨x, y, r, rfl, rfl⟩ := mm_ji_inv h; exact lv_lushr hx hb hd rfl k
  case lcmp =>
    split at h
    · cases h; exact W.lcmp hx hb hd k
    · cases h
  case i2l => obtain ⟨x, r, rfl, rfl⟩ := mm_i_inv h; exact lv_i2l hx hb hd rfl k
  case l2i => obtain ⟨x, r, rfl, rfl⟩ := mm_j_inv h; exact lv_l2i hx hb hd rfl k
  case i2b => obtain ⟨x, r, rfl, rfl⟩ := mm_i_inv h; exact lv_i2b hx hb hd rfl k
  case i2c => obtain ⟨x, r, rfl, rfl⟩ := mm_i_inv h; exact lv_i2c hx hb hd rfl k
  case i2d => obtain ⟨x, r, rfl, rfl⟩ := mm_i_inv h; exact lv_i2d hx hb hd k
  case dadd => obtain ⟨x, y, r, rfl, h0, rfl⟩ := mm_dd_inv h; exact lv_dadd hx hb hd h0 k
  case dsub => obtain ⟨x, y, r, rfl, h0, rfl⟩ := mm_dd_inv h; exact lv_dsub hx hb hd h0 k
  case dmul => obtain ⟨x, y, r, rfl, h0, rfl⟩ := mm_dd_inv h; exact lv_dmul hx hb hd h0 k
  case ddiv => obtain ⟨x, y, r, rfl, h0, rfl⟩ := mm_dd_inv h; exact lv_ddiv hx hb hd h0 k
  case dcmp op =>
    split at h
    · cases h; exact lv_dcmp hx hb hd k
    · cases h
  case dup =>
    split at h
    · split at h
      · rename_i h0
        cases h
        exact lv_dup hx hb hd ((mm_v_cat ho _).trans h0) k
      · cases h
    · cases h
  case pop =>
    split at h
    · split at h
      · rename_i h0
        cases h
        exact lv_pop hx hb hd ((mm_v_cat ho _).trans h0) k
      · cases h
    · cases h
  case dup_x1 =>
    split at h
    · split at h
      · rename_i h0
        cases h
        exact lv_dup_x1 hx hb hd ((mm_v_cat ho _).trans h0.1) ((mm_v_cat ho _).trans h0.2) k
      · cases h
    · cases h
  case dup2 =>
    split at h
    · split at h
      · rename_i h0
        cases h
        exact lv_dup2_2 hx hb hd ((mm_v_cat ho _).trans h0) k
      · split at h
        · split at h
          · rename_i h0
            cases h
            exact lv_dup2_11 hx hb hd ((mm_v_cat ho _).trans h0.1) ((mm_v_cat ho _).trans h0.2) k
          · cases h
        · cases h
    · cases h
theorem mm_to_int {off : Int} {t : Nat} (h : mm_to pc off = some t) : (pc : Int) + off = (t : Int) := by
  simp only [mm_to] at h
  split at h
  · rename_i t' e2
    cases h
    exact e2
  · cases h
theorem mm_ifc (hx : p.tables.exec = Jvm.exec) (hb : c.code = cc) {x : Int32} {cnd : ClassFile.Cond} {off : Int} {tgt : Nat} {rest : List Value} (hd : decode cc pc = .ok (.ifCond cnd off, 3)) (ht : (pc : Int) + off = (tgt : Int))
    (kt : mm_c0 cnd x 0 → W p l e R s m args below meth c H locs cells slots Q (F0 m tgt ls rest)) (kf : ¬ mm_c0 cnd x 0 → W p l e R s m args below meth c H locs cells slots Q (F0 m (pc + 3) ls rest)) : W p l e R s m args below meth c H locs cells slots Q (F0 m pc ls (.int x :: rest)) := by
  cases cnd
  · exact lv_if_eq hx hb hd ht kt kf
  · exact lv_if_ne hx hb hd ht kt (fun q => kf (fun z => z q))
  · exact lv_if_lt hx hb hd ht kt kf
  · exact lv_if_ge hx hb hd ht kt kf
  · exact lv_if_gt hx hb hd ht kt kf
  · exact lv_if_le hx hb hd ht kt kf
theorem mm_icmp (hx : p.tables.exec = Jvm.exec) (hb : c.code = cc) {x y : Int32} {cnd : ClassFile.Cond} {off : Int} {tgt : Nat} {rest : List Value} (hd : decode cc pc = .ok (.if_icmp cnd off, 3)) (ht : (pc : Int) + off = (tgt : Int))
    (kt : mm_c0 cnd x y → W p l e R s m args below meth c H locs cells slots Q (F0 m tgt ls rest)) (kf : ¬ mm_c0 cnd x y → W p l e R s m args below meth c H locs cells slots Q (F0 m (pc + 3) ls rest)) : W p l e R s m args below meth c H locs cells slots Q (F0 m pc ls (.int y :: .int x :: rest)) := by
  cases cnd
  · exact lv_icmp_eq hx hb hd ht kt kf
  · exact lv_icmp_ne hx hb hd ht kt (fun q => kf (fun z => z q))
  · exact lv_icmp_lt hx hb hd ht kt kf
  · exact lv_icmp_ge hx hb hd ht kt kf
  · exact lv_icmp_gt hx hb hd ht kt kf
  · exact lv_icmp_le hx hb hd ht kt kf
def mm_isSw (i : Instr) : Bool := match i with
  | .tableswitch _ _ _ _ => true
  | _ => false
theorem mm_br_sim (hx : p.tables.exec = Jvm.exec) (hb : c.code = cc) {i : Instr} {S r : List Value} {t : Nat} (h : mm_br pc len i S = some (t, r)) (hd : decode cc pc = .ok (i, len)) (hl : len = mm_len i ∨ mm_isSw i = true)
    (k : W p l e R s m args below meth c H locs cells slots Q (F0 m t ls (r.map (mm_v rho opq)))) : W p l e R s m args below meth c H locs cells slots Q (F0 m pc ls (S.map (mm_v rho opq))) := by
  cases i <;> simp only [mm_br, reduceCtorEq] at h
  case goto off =>
    have hl2 : len = 3 := hl.elim id (fun z => nomatch z)
    subst hl2
    split at h
    · rename_i t' e
      cases h
      exact lv_goto hx hb hd (mm_to_int e) k
    · cases h
  case ifCond cnd off =>
    have hl2 : len = 3 := hl.elim id (fun z => nomatch z)
    subst hl2
    split at h
    · rename_i t' e
      split at h
      · rename_i x r'
        by_cases hc : mm_c0 cnd x 0
        · rw [if_pos hc] at h
          cases h
          exact mm_ifc hx hb hd (mm_to_int e) (fun _ => k) (fun z => absurd hc z)
        · rw [if_neg hc] at h
          cases h
          exact mm_ifc hx hb hd (mm_to_int e) (fun z => absurd z hc) (fun _ => k)
      · cases h
    · cases h
  case if_icmp cnd off =>
    have hl2 : len = 3 := hl.elim id (fun z => nomatch z)
    subst hl2
    split at h
    · rename_i t' e
      split at h
      · rename_i y x r'
        by_cases hc : mm_c0 cnd x y
        · rw [if_pos hc] at h
          cases h
          exact mm_icmp hx hb hd (mm_to_int e) (fun _ => k) (fun z => absurd hc z)
        · rw [if_neg hc] at h
          cases h
          exact mm_icmp hx hb hd (mm_to_int e) (fun z => absurd z hc) (fun _ => k)
      · cases h
    · cases h
  case ifnull off =>
    have hl2 : len = 3 := hl.elim id (fun z => nomatch z)
    subst hl2
    split at h
    · rename_i t' e
      split at h
      · cases h
        exact lv_ifnullN hx hb hd (mm_to_int e) k
      · cases h
        exact lv_ifnull hx hb hd k
      · cases h
    · cases h
  case ifnonnull off =>
    have hl2 : len = 3 := hl.elim id (fun z => nomatch z)
    subst hl2
    split at h
    · rename_i t' e
      split at h
      · cases h
        exact lv_ifnonnullN hx hb hd k
      · cases h
        exact lv_ifnonnull hx hb hd (mm_to_int e) k
      · cases h
    · cases h
  case tableswitch d lo hi offs =>
    split at h
    · rename_i x r'
      split at h
      · rename_i hc
        split at h
        · rename_i t' e
          cases h
          exact lv_tableOut hx hb hd hc (mm_to_int e) k
        · cases h
      · rename_i hc
        split at h
        · rename_i off e1
          split at h
          · rename_i t' e
            cases h
            exact lv_tableIn hx hb hd (fun z => hc (Or.inl z)) (fun z => hc (Or.inr z)) e1 (mm_to_int e) k
          · cases h
        · cases h
    · cases h
end MMA
