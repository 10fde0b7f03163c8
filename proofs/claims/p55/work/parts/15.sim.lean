/-! THE SIMULATION: what the mini machine's run gives, the machine does -/
/-- what is known of an instruction: by its kind -/
def mm_opE (P : mm_P) (MT : Nat → Option mm_M) (stn : Nat → String × String × String) (sts : String → Nat → Option (Nat × String)) (own yn : String) (cc : ByteArray) (hh : List (Nat × Nat × Nat × Nat)) (ret : Option FieldType) (pc len : Nat) (op : mm_Op) : Prop := match op with
  | (0, _, _, _, _, i, _) => decode cc pc = .ok (i, len) ∧ len = mm_len i
  | (1, _, _, _, _, i, _) => decode cc pc = .ok (i, len) ∧ (len = mm_len i ∨ mm_isSw i = true)
  | (2, _, _, _, _, i, _) => decode cc pc = .ok (i, len) ∧ len = mm_len i
  | (3, _, _, _, _, i, _) => decode cc pc = .ok (i, len) ∧ len = mm_len i
  | (4, a, _, _, _, i, _) => decode cc pc = .ok (i, len) ∧ len = mm_len i ∧ mm_rE a i ret
  | (5, a, _, _, _, _, _) => ∃ v, P.2.2.1 a = some v ∧ mm_kE own cc pc len v
  | (6, a, _, _, _, _, _) => ∃ (idx : Nat) (tx : String), sts own idx = some (a, tx) ∧ ((decode cc pc = .ok (.ldc idx, 2) ∧ len = 2) ∨ (decode cc pc = .ok (.ldc_w idx, 3) ∧ len = 3))
  | (7, a, b, _, _, _, _) => len = 3 ∧ ∃ idx, decode cc pc = .ok (.getfield idx, 3) ∧ mm_fE own idx a b
  | (8, a, b, _, _, _, _) => len = 3 ∧ ∃ (idx : Nat) (ty : FieldType), decode cc pc = .ok (.putfield idx, 3) ∧ P.2.2.2.2.2 a b = some ty ∧ mm_fW own yn idx a b ty
  | (9, a, _, _, _, _, _) => len = 3 ∧ ∃ idx, decode cc pc = .ok (.getstatic idx, 3) ∧ Cond.fieldLink own idx (stn a).1 (stn a).2.1 (stn a).2.2 ∈ mm_T
  | (10, a, _, _, _, _, _) => len = 3 ∧ a < 2 ∧ ∃ idx, decode cc pc = .ok (.getfield idx, 3) ∧ Cond.fieldLink own idx "java/lang/String" (mm_sf a).1 (mm_sf a).2 ∈ mm_T
  | (11, a, _, _, _, _, _) => len = 3 ∧ ∃ (idx : Nat) (fs : List Value), decode cc pc = .ok (.new idx, 3) ∧ P.2.2.2.2.1 a = some fs ∧ mm_nE own idx a fs
  | (12, a, _, _, _, _, _) => (a < 4 ∧ len = 2 ∧ decode cc pc = .ok (.newarray (mm_at9 a), 2) ∧ Cond.arrayClass (mm_ty a) ∈ mm_T) ∨ (a = 5 ∧ len = 3 ∧ ∃ idx, decode cc pc = .ok (.anewarray idx, 3) ∧ Cond.classLink own idx RX5 ∈ mm_T)
  | (13, _, _, _, _, i, _) => decode cc pc = .ok (i, len) ∧ len = mm_len i
  | (14, _, _, _, _, _, _) => len = 3 ∧ ∃ idx, decode cc pc = .ok (.invokespecial idx, 3) ∧ Cond.methodLink own idx objectInit ∈ mm_T
  | (15, a, b, ci, d9, _, hs) => mm_iE MT own cc pc a b ci d9 ∧ mm_hE own cc hh pc hs
  | (16, _, _, _, _, _, hs) => ∀ E q r, hs = (E, q) :: r → mm_tE sts own cc hh pc E
  | (17, _, _, _, _, _, _) => len = 3 ∧ ∃ idx, decode cc pc = .ok (.invokestatic idx, 3) ∧ Cond.methodLink own idx arraycopyName ∈ mm_T
  | (18, _, _, _, _, _, _) => len = 3 ∧ ∃ idx, decode cc pc = .ok (.invokestatic idx, 3) ∧ Cond.methodLink own idx Lib.Math.max.name ∈ mm_T
  | (19, _, _, _, _, _, _) => len = 3 ∧ ∃ idx, decode cc pc = .ok (.invokestatic idx, 3) ∧ Cond.methodLink own idx Lib.Math.min.name ∈ mm_T
  | (20, a, _, _, _, _, _) => len = 6 ∧ ∃ idx, decode cc pc = .ok (.invokevirtual idx, 3) ∧ decode cc (pc + 3) = .ok (.checkcast a, 3) ∧ ∀ w ∈ mm_clW own idx a, w ∈ mm_T
  | _ => True
theorem mm_maxW : Cond.static Lib.Math.max.name ∈ mm_T ∧ Cond.initialized "java/lang/Math" ∈ mm_T ∧ Cond.code Lib.Math.max.name Lib.Math.max.code 2 (some .int) ∈ mm_T := ⟨by decide +kernel, by decide +kernel, by decide +kernel⟩
theorem mm_minW : Cond.static Lib.Math.min.name ∈ mm_T ∧ Cond.code Lib.Math.min.name Lib.Math.min.code 2 (some .int) ∈ mm_T := ⟨by decide +kernel, by decide +kernel⟩
theorem mm_objW : Cond.instanceMethod objectInit ∈ mm_T ∧ Cond.code objectInit ⟨#[0xb1]⟩ 1 none ∈ mm_T := ⟨by decide +kernel, by decide +kernel⟩
theorem mm_cpyW : Cond.native arraycopyName ∈ mm_T ∧ Cond.static arraycopyName ∈ mm_T ∧ Cond.initialized "java/lang/System" ∈ mm_T := ⟨by decide +kernel, by decide +kernel, by decide +kernel⟩
theorem mm_nfw : 24 + (nativeFrameWords "java/lang/System" "arraycopy" 5 + 11) ≤ 150 := by decide +kernel
/-- what a frame has -/
def mm_fr (P : mm_P) (stn : Nat → String × String × String) (sts : String → Nat → Option (Nat × String)) (rho : Nat → Nat) (opq : Nat → Value) (cA : Nat → ClassId) (D : va_G) (B : Nat) (p : Program) (l : Launch) (s : State) (m : MethodId) (args : Array Value) (meth : Method) (c : Code) (R : Room) (own yn : String) (cc : ByteArray) (hh : List (Nat × Nat × Nat × Nat)) (ret : Option FieldType) (nL d : Nat) : Prop :=
  p.tables.exec = Jvm.exec ∧ c.code = cc ∧ meth.sig.returnType = ret ∧ meth.locks = false ∧ (∀ w ∈ mm_T, w.before args s = true) ∧ s.vm.findClass own = some m.cls ∧ (yn = "<init>" → meth.name = "<init>") ∧ c.maxLocals = nL ∧ c.exceptionTable.toList = tableOf hh ∧ mm_env P stn sts rho opq cA D B s ∧ l.stackTraces = false ∧ mm_opq opq ∧ mm_rho rho B ∧ d + 7 ≤ R.frames ∧ 65 * (d + 1) + 150 ≤ R.locals
theorem mm_awr_same {i : Instr} {σ σ' : mm_H} {S r : List Value} (h : mm_awr i σ S = some (σ', r)) : σ'.2.2.1 = σ.2.2.1 ∧ σ'.2.2.2 = σ.2.2.2 := by
  cases i <;> simp only [mm_awr, reduceCtorEq] at h
  all_goals
    repeat' (first | cases h | split at h)
    all_goals exact ⟨rfl, rfl⟩
theorem mm_putf_same {P : mm_P} {σ σ' : mm_H} {ci k : Nat} {S r : List Value} (h : mm_putf P σ ci k S = some (σ', r)) : σ'.2.2.1 = σ.2.2.1 ∧ σ'.2.2.2 = σ.2.2.2 := by
  unfold mm_putf at h
  repeat' (first | cases h | split at h)
  all_goals exact ⟨rfl, rfl⟩
theorem mm_clone_cnt {σ σ' : mm_H} {S r : List Value} (h : mm_clone σ S = some (σ', r)) : σ'.2.2.1 = σ.2.2.1 + 1 ∧ σ.2.2.2 ≤ σ'.2.2.2 := by
  unfold mm_clone at h
  repeat' (first | cases h | split at h)
  all_goals exact ⟨rfl, Nat.le_add_right _ _⟩
theorem mm_copy_same {P : mm_P} {σ σ' : mm_H} {S r : List Value} (h : mm_copy P σ S = some (σ', r)) : σ'.2.2.1 = σ.2.2.1 ∧ σ'.2.2.2 = σ.2.2.2 := by
  unfold mm_copy at h
  repeat' (first | cases h | split at h)
  all_goals exact ⟨rfl, rfl⟩
theorem mm_new_cnt {P : mm_P} {σ σ' : mm_H} {ci : Nat} {v : Value} {fs : List Value} (h : mm_new P σ ci = some (σ', v)) (hf : P.2.2.2.2.1 ci = some fs) : σ'.2.2.1 = σ.2.2.1 + 1 ∧ σ'.2.2.2 = σ.2.2.2 + fs.length := by
  unfold mm_new at h
  rw [hf] at h
  split at h
  · cases h
    exact ⟨rfl, rfl⟩
  · cases h
theorem mm_newa_cnt {σ σ' : mm_H} {t : Nat} {S r : List Value} (h : mm_newa σ t S = some (σ', r)) : σ'.2.2.1 = σ.2.2.1 + 1 ∧ σ.2.2.2 ≤ σ'.2.2.2 := by
  unfold mm_newa at h
  repeat' (first | cases h | split at h)
  all_goals exact ⟨rfl, Nat.le_add_right _ _⟩
section MMZ
variable {p : Program} {l : Launch} {e : Env} {R : Room} {s : State} {m : MethodId} {args : Array Value} {below : List Frame} {meth : Method} {c : Code} {H : Heap} {locs : List Loc} {Q : State → Prop}
variable {cc : ByteArray} {pc len : Nat} {ls : Array Slot} {rho : Nat → Nat} {opq : Nat → Value} {cA : Nat → ClassId} {D : va_G} {B : Nat} {P : mm_P} {σ : mm_H} {stn : Nat → String × String × String} {sts : String → Nat → Option (Nat × String)} {own yn : String} {hh : List (Nat × Nat × Nat × Nat)} {ret : Option FieldType} {nL d n0 s0 : Nat} {MT : Nat → Option mm_M} {call : Nat → List Value → mm_H → Option mm_R}
theorem mm_step_next {op : mm_Op} {L L' : mm_L} {S S' : List Value} {σ' : mm_H} {pc' : Nat} (C : mm_fr P stn sts rho opq cA D B p l s m args meth c R own yn cc hh ret nL d) (hmono : ∀ y A σ r, call y A σ = some r → mm_mono σ r.2) (hcall : ∀ y t A σ r, call y A σ = some r → MT y = some t → mm_Con l P stn sts rho opq cA D B t d A σ r)
    (h : mm_step P call op pc len L S σ = some (.inl (pc', L', S', σ'))) (hE : mm_opE P MT stn sts own yn cc hh ret pc len op) (hn : n0 ≤ σ.2.2.1) (hs0 : s0 ≤ σ.2.2.2) (hcE : σ'.2.2.1 - n0 ≤ R.cells) (hsE : σ'.2.2.2 - s0 ≤ R.slots) (hl : mm_lh rho opq ls nL L) (hR : mm_rel rho opq cA D B s σ H locs (σ.2.2.1 - n0))
    (k : ∀ (H1 : Heap) (locs1 : List Loc) (ls1 : Array Slot), mm_lh rho opq ls1 nL L' → mm_rel rho opq cA D B s σ' H1 locs1 (σ'.2.2.1 - n0) → W p l e R s m args below meth c H1 locs1 (σ'.2.2.1 - n0) (σ'.2.2.2 - s0) Q (F0 m pc' ls1 (S'.map (mm_v rho opq)))) :
    W p l e R s m args below meth c H locs (σ.2.2.1 - n0) (σ.2.2.2 - s0) Q (F0 m pc ls (S.map (mm_v rho opq))) := by
  obtain ⟨hx, hb, hrt, hlocks, hts, hown, hyn, hml, htab, hEnv, hst, ho, hr, hfr, hlo⟩ := C
  have hmls : c.maxLocals = ls.size := hml.trans hl.1.symm
  unfold mm_step at h
  split at h
  case h_1 =>
    split at h
    · rename_i h1
      cases h
      exact mm_alu_sim hx hb ho h1 hE.1 hE.2 (k H locs ls hl hR)
    · cases h
  case h_2 =>
    split at h
    · rename_i h1
      cases h
      exact mm_br_sim hx hb h1 hE.1 hE.2 (k H locs ls hl hR)
    · cases h
  case h_3 =>
    split at h
    · rename_i h1
      cases h
      exact mm_loc_sim hx hb ho hl h1 hE.1 hE.2 (fun ls' hl' => k H locs ls' hl' hR)
    · cases h
  case h_4 =>
    split at h
    · rename_i h1
      cases h
      exact mm_ard_sim hx hb hEnv.1 hR.1 hR.2.1 hEnv.2.2.2.1 h1 hE.1 hE.2 (k H locs ls hl hR)
    · cases h
  case h_5 =>
    split at h <;> cases h
  case h_6 =>
    obtain ⟨v, e1, e2⟩ := hE
    rw [e1] at h
    cases h
    exact mm_kon_sim hx hb hts hown e2 (k H locs ls hl hR)
  case h_7 =>
    obtain ⟨idx, tx, e1, e2⟩ := hE
    cases h
    exact mm_str_sim hx hb hown hEnv e1 e2 (k H locs ls hl hR)
  case h_8 =>
    obtain ⟨rfl, idx, e1, e2⟩ := hE
    split at h
    · rename_i h1
      cases h
      exact mm_getf_sim hx hb hts hown hEnv.1 hR.1 h1 e1 e2 (k H locs ls hl hR)
    · cases h
  case h_9 =>
    obtain ⟨rfl, idx, ty, e1, e2, e3⟩ := hE
    split at h
    · rename_i h1
      cases h
      have hsame : ∀ {q : mm_H}, mm_mono σ q → True := fun _ => trivial
      have hq := mm_putf_same h1
      rw [hq.1, hq.2] at k
      exact mm_putf_sim hx hb hr hts hown hyn hEnv.1 hR h1 e1 e2 e3 (fun H1 locs1 hR1 => k H1 locs1 ls hl hR1)
    · cases h
  case h_10 =>
    obtain ⟨rfl, idx, e1, e2⟩ := hE
    split at h
    · rename_i v h1
      cases h
      exact mm_sta_sim hx hb hts hown hEnv hR.2.1 h1 e1 e2 (k H locs ls hl hR)
    · cases h
  case h_11 =>
    obtain ⟨rfl, e0, idx, e1, e2⟩ := hE
    split at h
    · rename_i h1
      cases h
      exact mm_getO_sim hx hb hts hown hEnv hR.2.1 hR.1 h1 e0 e1 e2 (k H locs ls hl hR)
    · cases h
  case h_12 =>
    obtain ⟨rfl, idx, fs, e1, e2, e3⟩ := hE
    split at h
    · rename_i h1
      cases h
      have hq := mm_new_cnt h1 e2
      have q1 : σ'.2.2.1 - n0 = σ.2.2.1 - n0 + 1 := by omega
      have q2 : σ'.2.2.2 - s0 = σ.2.2.2 - s0 + fs.length := by omega
      rw [q1] at hcE k
      rw [q2] at hsE k
      exact mm_new_sim hx hb hr hts hown hEnv.1 hR h1 e2 e1 e3 hcE hsE (fun H1 hR1 => k H1 locs ls hl hR1)
    · cases h
  case h_13 =>
    split at h
    · rename_i h1
      cases h
      have hq := mm_newa_cnt h1
      have q1 : σ'.2.2.1 - n0 = σ.2.2.1 - n0 + 1 := by omega
      have q2 : σ'.2.2.2 - s0 = σ.2.2.2 - s0 + (σ'.2.2.2 - σ.2.2.2) := by omega
      rw [q1] at hcE k
      rw [q2] at hsE k
      rcases hE with ⟨e1, rfl, e2, e3⟩ | ⟨rfl, rfl, idx, e2, e3⟩
      · exact mm_newa_sim hx hb hr hts hEnv.1 hR h1 e1 e2 e3 hcE hsE (fun H1 hR1 => k H1 locs ls hl hR1)
      · exact mm_newq_sim hx hb hr hts hEnv.2.2.1 hown hEnv.1 hR h1 e2 e3 hcE hsE (fun H1 hR1 => k H1 locs ls hl hR1)
    · cases h
  case h_14 =>
    split at h
    · rename_i h1
      cases h
      have hq := mm_awr_same h1
      rw [hq.1, hq.2] at k
      exact mm_awr_sim hx hb hr hEnv.1 hR h1 hE.1 hE.2 (fun H1 locs1 hR1 => k H1 locs1 ls hl hR1)
    · cases h
  case h_15 =>
    obtain ⟨rfl, idx, e1, e2⟩ := hE
    split at h
    · split at h
      · rename_i h24
        cases h
        exact mm_obj_sim hx hb ho hmls hts hown h24 e1 e2 mm_objW (by omega) (by omega) (k H locs ls hl hR)
      · cases h
    · cases h
  case h_16 =>
    split at h
    · rename_i A r ht
      split at h
      · rename_i hi
        split at h
        · rename_i res hcl
          have hm := hmono _ _ _ _ hcl
          have e8 : mm_nx (.inl (pc', L', S', σ')) = res.2 := mm_back_eq h
          have e9 : σ' = res.2 := e8
          subst e9
          have m1 := hm.1
          have m2 := hm.2.1
          have q1 : res.2.2.2.1 - n0 = σ.2.2.1 - n0 + (res.2.2.2.1 - σ.2.2.1) := by omega
          have q2 : res.2.2.2.2 - s0 = σ.2.2.2 - s0 + (res.2.2.2.2 - σ.2.2.2) := by omega
          rw [q1] at hcE k
          rw [q2] at hsE k
          refine mm_ran hR hm (mm_inv_run hx hb ho hts hown hEnv hmls hfr hlo hR hE.1 ht hi (fun t ht9 => hcall _ t _ _ _ hcl ht9) hcE hsE) (fun E ce q H1 locs1 hE1 hR1 hc1 hc2 hc3 => ?_) (fun o H1 locs1 ho1 hR1 => ?_)
          · obtain ⟨r1, r2⟩ := res
            dsimp only at hE1
            subst hE1
            simp only [mm_back] at h
            split at h
            · cases h
            · split at h
              · rename_i h9 len9 k9 hlk
                split at h
                · rename_i hk9
                  cases h
                  exact mm_caught hx hb ho hts hown hEnv htab hl hE.2 hlk hk9 hc1 hc2 hc3 (fun ls' hl' => k H1 locs1 ls' hl' hR1)
                · cases h
              · cases h
          · obtain ⟨r1, r2⟩ := res
            dsimp only at ho1
            subst ho1
            simp only [mm_back] at h
            cases h
            have k9 := k H1 locs1 ls hl hR1
            cases o with
            | none => exact k9
            | some v => exact k9
        · cases h
      · cases h
    · cases h
  case h_17 =>
    split at h
    · split at h <;> cases h
    · cases h
  case h_18 =>
    obtain ⟨rfl, idx, e1, e2⟩ := hE
    split at h
    · rename_i h1
      split at h
      · rename_i h24
        cases h
        have hq := mm_copy_same h1
        rw [hq.1, hq.2] at k
        exact mm_copy_sim hx hb ho hr hmls hts hown hEnv.1 hR hEnv.2.2.2.1 hR.2.1 h1 h24 e1 e2 mm_cpyW (by omega) (Nat.le_trans mm_nfw (by omega)) (fun H1 locs1 hR1 => k H1 locs1 ls hl hR1)
      · cases h
    · cases h
  case h_19 =>
    obtain ⟨rfl, idx, e1, e2⟩ := hE
    split at h
    · split at h
      · rename_i h24
        cases h
        exact va_mmax hx hb hmls hown (hts _ e2) (hts _ mm_maxW.1) (hts _ mm_maxW.2.1) (hts _ mm_maxW.2.2) (by omega) (by rw [mm_sum_v ho]; omega) hcE hsE e1 (k H locs ls hl hR)
      · cases h
    · cases h
  case h_20 =>
    obtain ⟨rfl, idx, e1, e2⟩ := hE
    split at h
    · split at h
      · rename_i h24
        cases h
        exact va_mmin hx hb hmls hown (hts _ e2) (hts _ mm_minW.1) (hts _ mm_maxW.2.1) (hts _ mm_minW.2) (by omega) (by rw [mm_sum_v ho]; omega) hcE hsE e1 (k H locs ls hl hR)
      · cases h
    · cases h
  case h_21 =>
    obtain ⟨rfl, idx, e1, e2, e3⟩ := hE
    split at h
    · rename_i h1
      split at h
      · rename_i h24
        cases h
        have hq := mm_clone_cnt h1
        have q1 : σ'.2.2.1 - n0 = σ.2.2.1 - n0 + 1 := by omega
        have q2 : σ'.2.2.2 - s0 = σ.2.2.2 - s0 + (σ'.2.2.2 - σ.2.2.2) := by omega
        rw [q1, q2] at k
        rw [q1] at hcE
        rw [q2] at hsE
        exact mm_clone_sim hx hb ho hr hmls hts hEnv.2.1 hown hEnv.1 hR h1 h24 e1 e2 e3 (by omega) (by omega) hcE hsE (fun H1 hR1 => k H1 locs ls hl hR1)
      · cases h
    · cases h
  case h_22 => cases h
end MMZ
