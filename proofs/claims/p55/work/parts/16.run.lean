theorem mm_args_len {rho : Nat → Nat} {opq : Nat → Value} (ho : mm_opq opq) : ∀ A : List Value, (lg_sl (A.map (mm_v rho opq))).length = (mm_args A).length
  | [] => rfl
  | v :: r => by
    have ih := mm_args_len (rho := rho) ho r
    unfold lg_sl at ih ⊢
    rw [List.map_cons, List.flatMap_cons, List.length_append, ih, mm_v_cat ho]
    simp only [mm_args]
    split
    · simp only [List.length_cons, List.length_nil]; omega
    · simp only [List.length_cons, List.length_nil]; omega
theorem mm_args_at {rho : Nat → Nat} {opq : Nat → Value} (ho : mm_opq opq) : ∀ (A : List Value) (k i : Nat) (v : Value), (mm_args A)[i]? = some (some v) → (k + i, mm_v rho opq v) ∈ lv_args k (A.map (mm_v rho opq))
  | [], _, i, _, h => by simp [mm_args] at h
  | w :: r, k, i, v, h => by
    rw [List.map_cons, lv_args, mm_v_cat ho]
    simp only [mm_args] at h
    split at h
    · rename_i hc
      rw [if_pos hc]
      match i, h with
      | 0, h => cases h; exact List.mem_cons_self
      | 1, h => cases h
      | i + 2, h =>
        have h9 := mm_args_at (rho := rho) ho r (k + 2) i v h
        rw [show k + (i + 2) = k + 2 + i by omega]
        exact List.mem_cons_of_mem _ h9
    · rename_i hc
      rw [if_neg hc]
      match i, h with
      | 0, h => cases h; exact List.mem_cons_self
      | i + 1, h =>
        have h9 := mm_args_at (rho := rho) ho r (k + 1) i v h
        rw [show k + (i + 1) = k + 1 + i by omega]
        exact List.mem_cons_of_mem _ h9
theorem mm_entry_lh {rho : Nat → Nat} {opq : Nat → Value} (ho : mm_opq opq) {A : List Value} {nL : Nat} (h : (mm_args A).length ≤ nL) : mm_lh rho opq ((lg_sl (A.map (mm_v rho opq)) ++ List.replicate (nL - (lg_sl (A.map (mm_v rho opq))).length) Slot.unset).toArray) nL (mm_entry A nL) := by
  have h0 := lv_entry (A.map (mm_v rho opq)) (n := nL) (by rw [mm_args_len ho]; exact h)
  refine ⟨h0.1, h0.2.1, ?_, fun i v hi => ?_⟩
  · unfold mm_entry
    rw [List.length_append, List.length_replicate]
    omega
  · have h1 : (mm_args A)[i]? = some (some v) := by
      unfold mm_entry at hi
      by_cases hlt : i < (mm_args A).length
      · rw [List.getElem?_append_left hlt] at hi
        exact hi
      · rw [List.getElem?_append_right (by omega), List.getElem?_replicate] at hi
        split at hi <;> cases hi
    have h2 := mm_args_at (rho := rho) ho A 0 i v h1
    rw [Nat.zero_add] at h2
    exact h0.2.2 _ h2
section MMY
variable {p : Program} {l : Launch} {e : Env} {R : Room} {s : State} {m : MethodId} {args : Array Value} {below : List Frame} {meth : Method} {c : Code} {H : Heap} {locs : List Loc}
variable {cc : ByteArray} {pc len : Nat} {ls : Array Slot} {rho : Nat → Nat} {opq : Nat → Value} {cA : Nat → ClassId} {D : va_G} {B : Nat} {P : mm_P} {σ : mm_H} {stn : Nat → String × String × String} {sts : String → Nat → Option (Nat × String)} {own yn : String} {hh : List (Nat × Nat × Nat × Nat)} {ret : Option FieldType} {nL d n0 s0 : Nat} {MT : Nat → Option mm_M} {call : Nat → List Value → mm_H → Option mm_R}
theorem mm_step_end {op : mm_Op} {L : mm_L} {S : List Value} {res : mm_R} (C : mm_fr P stn sts rho opq cA D B p l s m args meth c R own yn cc hh ret nL d) (hmono : ∀ y A σ r, call y A σ = some r → mm_mono σ r.2) (hcall : ∀ y t A σ r, call y A σ = some r → MT y = some t → mm_Con l P stn sts rho opq cA D B t d A σ r)
    (h : mm_step P call op pc len L S σ = some (.inr res)) (hE : mm_opE P MT stn sts own yn cc hh ret pc len op) (hn : n0 ≤ σ.2.2.1) (hs0 : s0 ≤ σ.2.2.2) (hcE : res.2.2.2.1 - n0 ≤ R.cells) (hsE : res.2.2.2.2 - s0 ≤ R.slots) (hl : mm_lh rho opq ls nL L) (hR : mm_rel rho opq cA D B s σ H locs (σ.2.2.1 - n0)) :
    W p l e R s m args below meth c H locs (σ.2.2.1 - n0) (σ.2.2.2 - s0) (vx_MQ below (mm_Qc rho opq cA D B res) (mm_XC rho opq cA D B res) args s (res.2.2.2.1 - n0) (res.2.2.2.2 - s0) (fun q => B ≤ q)) (F0 m pc ls (S.map (mm_v rho opq))) := by
  obtain ⟨hx, hb, hrt, hlocks, hts, hown, hyn, hml, htab, hEnv, hst, ho, hr, hfr, hlo⟩ := id C
  have hmls : c.maxLocals = ls.size := hml.trans hl.1.symm
  unfold mm_step at h
  split at h
  case h_5 =>
    split at h
    · rename_i o h1
      cases h
      refine vx_ret ?_
      exact mm_ret_sim hx hb hrt hlocks h1 hE.1 hE.2.1 hE.2.2 (fun t ht hW => ⟨⟨o, rfl, rfl⟩, mm_pre_of hR ht, hR.2.1.F ht⟩) hR.2.1.2.2
    · cases h
  case h_16 =>
    split at h
    · rename_i A r ht
      split at h
      · rename_i hi
        split at h
        · rename_i res9 hcl
          have hm := hmono _ _ _ _ hcl
          have e8 : mm_nx (.inr res) = res9.2 := mm_back_eq h
          have e9 : res.2 = res9.2 := e8
          have m1 := hm.1
          have m2 := hm.2.1
          rw [e9] at hcE hsE ⊢
          have q1 : res9.2.2.2.1 - n0 = σ.2.2.1 - n0 + (res9.2.2.2.1 - σ.2.2.1) := by omega
          have q2 : res9.2.2.2.2 - s0 = σ.2.2.2 - s0 + (res9.2.2.2.2 - σ.2.2.2) := by omega
          rw [q1] at hcE ⊢
          rw [q2] at hsE ⊢
          refine mm_ran hR hm (mm_inv_run hx hb ho hts hown hEnv hmls hfr hlo hR hE.1 ht hi (fun t ht9 => hcall _ t _ _ _ hcl ht9) hcE hsE) (fun E ce q H1 locs1 hE1 hR1 hc1 hc2 hc3 => ?_) (fun o H1 locs1 ho1 hR1 => ?_)
          · obtain ⟨r1, r2⟩ := res9
            dsimp only at hE1
            subst hE1
            simp only [mm_back] at h
            split at h
            · rename_i hs9 hnil
              cases h
              exact mm_outs htab (hE.2.1 rfl) hlocks hR1 hc1 hc2 hc3 (Nat.le_refl _) (Nat.le_refl _)
            · split at h
              · split at h <;> cases h
              · cases h
          · obtain ⟨r1, r2⟩ := res9
            dsimp only at ho1
            subst ho1
            simp only [mm_back] at h
            cases h
        · cases h
      · cases h
    · cases h
  case h_17 =>
    split at h
    · split at h
      · rename_i h24
        cases h
        have q1 : σ.2.2.1 + 1 - n0 = σ.2.2.1 - n0 + 1 := by omega
        have q2 : σ.2.2.2 + 6 - s0 = σ.2.2.2 - s0 + 6 := by omega
        dsimp only at hcE hsE ⊢
        rw [q1] at hcE ⊢
        rw [q2] at hsE ⊢
        exact mm_thr_sim hx hb ho hst hlocks hts hown hEnv hmls htab (by omega) (by omega) hR (hE _ _ _ rfl) h24 hcE hsE (Nat.le_refl _) (Nat.le_refl _)
      · cases h
    · cases h
  all_goals
    first
      | (cases h; done)
      | (split at h <;> first | (cases h; done) | (split at h <;> first | (cases h; done) | (split at h <;> cases h)))
theorem mm_go_sim {code : mm_Code} {res : mm_R} (C : mm_fr P stn sts rho opq cA D B p l s m args meth c R own yn cc hh ret nL d) (hmono : ∀ y A σ r, call y A σ = some r → mm_mono σ r.2) (hcall : ∀ y t A σ r, call y A σ = some r → MT y = some t → mm_Con l P stn sts rho opq cA D B t d A σ r)
    (hcode : ∀ pc len op, code.lookup pc = some (len, op) → mm_opE P MT stn sts own yn cc hh ret pc len op) (hcE : res.2.2.2.1 - n0 ≤ R.cells) (hsE : res.2.2.2.2 - s0 ≤ R.slots) :
    ∀ (n pc : Nat) (L : mm_L) (S : List Value) (σ : mm_H) (H : Heap) (locs : List Loc) (ls : Array Slot), mm_go P call code n pc L S σ = some res → n0 ≤ σ.2.2.1 → s0 ≤ σ.2.2.2 → mm_lh rho opq ls nL L → mm_rel rho opq cA D B s σ H locs (σ.2.2.1 - n0) →
      W p l e R s m args below meth c H locs (σ.2.2.1 - n0) (σ.2.2.2 - s0) (vx_MQ below (mm_Qc rho opq cA D B res) (mm_XC rho opq cA D B res) args s (res.2.2.2.1 - n0) (res.2.2.2.2 - s0) (fun q => B ≤ q)) (F0 m pc ls (S.map (mm_v rho opq))) := by
  intro n
  induction n with
  | zero => intro pc L S σ H locs ls h; cases h
  | succ n ih =>
    intro pc L S σ H locs ls h hn hs0 hl hR
    simp only [mm_go] at h
    split at h
    · rename_i len op hlk
      have hE := hcode pc len op hlk
      split at h
      · rename_i pc' L' S' σ' h1
        have m1 := mm_step_mono hmono h1
        have m2 := mm_go_mono hmono h
        have k1 : σ.2.2.1 ≤ σ'.2.2.1 := m1.1
        have k2 : σ.2.2.2 ≤ σ'.2.2.2 := m1.2.1
        have k3 := m2.1
        have k4 := m2.2.1
        exact mm_step_next C hmono hcall h1 hE hn hs0 (by omega) (by omega) hl hR (fun H1 locs1 ls1 hl1 hR1 => ih pc' L' S' σ' H1 locs1 ls1 h (by omega) (by omega) hl1 hR1)
      · rename_i r9 h1
        cases h
        exact mm_step_end C hmono hcall h1 hE hn hs0 hcE hsE hl hR
      · cases h
    · cases h
end MMY
/-- a method's row of the table is right -/
def mm_tabE (P : mm_P) (MT : Nat → Option mm_M) (stn : Nat → String × String × String) (sts : String → Nat → Option (Nat × String)) (t : mm_M) : Prop := plainName t.2.2.1.cls = true ∧ ∀ pc len op, t.1.lookup pc = some (len, op) → mm_opE P MT stn sts t.2.2.1.cls t.2.2.1.name t.2.2.2.1 t.2.2.2.2.2 t.2.2.2.2.1 pc len op
theorem mm_run_sim {l : Launch} {P : mm_P} {MT : Nat → Option mm_M} {stn : Nat → String × String × String} {sts : String → Nat → Option (Nat × String)} {rho : Nat → Nat} {opq : Nat → Value} {cA : Nat → ClassId} {D : va_G} {B N : Nat} (hst : l.stackTraces = false) (ho : mm_opq opq) (hr : mm_rho rho B) (htab : ∀ y t, MT y = some t → mm_tabE P MT stn sts t) :
    ∀ (d y : Nat) (t : mm_M) (A : List Value) (σ : mm_H) (res : mm_R), mm_run P (fun y => (MT y).map (fun t => (t.1, t.2.1))) N d y A σ = some res → MT y = some t → mm_Con l P stn sts rho opq cA D B t d A σ res := by
  intro d
  induction d with
  | zero => intro y t A σ res h; cases h
  | succ d ih =>
    intro y t A σ res h ht
    obtain ⟨hpl, hops⟩ := htab y t ht
    simp only [mm_run, ht, Option.map_some] at h
    split at h
    · rename_i hlen
      have hcall : ∀ y t A σ r, mm_run P (fun y => (MT y).map (fun t => (t.1, t.2.1))) N d y A σ = some r → MT y = some t → mm_Con l P stn sts rho opq cA D B t d A σ r := fun y t A σ r h1 h2 => ih y t A σ r h1 h2
      have hmono : ∀ y A σ r, mm_run P (fun y => (MT y).map (fun t => (t.1, t.2.1))) N d y A σ = some r → mm_mono σ r.2 := fun y A σ r h1 => mm_run_mono h1
      obtain ⟨code, nL, Y, bytes, ret, hh⟩ := t
      have body : ∀ (p : Program) (e : Env) (s : State) (m : MethodId) (args : Array Value) (below : List Frame) (meth : Method) (c : Code) (R : Room), mm_Pc P stn sts rho opq cA D B A σ args s → p.tables.exec = Jvm.exec → c.code = bytes → meth.sig.returnType = ret → meth.locks = false → (∀ w ∈ mm_gw, w.before args s = true) → s.vm.findClass Y.cls = some m.cls → meth.name = Y.name → c.maxLocals = nL → c.exceptionTable.toList = tableOf hh → R = mm_rm (d + 1) (res.2.2.2.1 - σ.2.2.1) (res.2.2.2.2 - σ.2.2.2) →
          W p l e R s m args below meth c s.heap [] 0 0 (vx_MQ below (mm_Qc rho opq cA D B res) (mm_XC rho opq cA D B res) args s (res.2.2.2.1 - σ.2.2.1) (res.2.2.2.2 - σ.2.2.2) (fun q => B ≤ q)) (entryFrame m args nL) := by
        intro p e s m args below meth c R hP hx hb hrt hlk hgw hown hnm hml htb hR
        obtain ⟨rfl, hEnv, hp1, hp2, hp3, hp4⟩ := hP
        subst hR
        have C : mm_fr P stn sts rho opq cA D B p l s m (A.map (mm_v rho opq)).toArray meth c (mm_rm (d + 1) (res.2.2.2.1 - σ.2.2.1) (res.2.2.2.2 - σ.2.2.2)) Y.cls Y.name bytes hh ret nL d :=
          ⟨hx, hb, hrt, hlk, mm_words hgw hEnv.2.1, hown, fun z => hnm.trans z, hml, htb, hEnv, hst, ho, hr, Nat.le_refl _, Nat.le_refl _⟩
        rw [lg_entry_eq]
        have hl := mm_entry_lh (rho := rho) ho hlen
        have hR : mm_rel rho opq cA D B s σ s.heap [] (σ.2.2.1 - σ.2.2.1) := ⟨hp1, va_S.rf, fun hc => ⟨hp2 hc, by omega⟩, hp3, hp4⟩
        have key := mm_go_sim (e := e) (below := below) (n0 := σ.2.2.1) (s0 := σ.2.2.2) (res := res) C hmono hcall hops (Nat.le_refl _) (Nat.le_refl _) N 0 (mm_entry A nL) [] σ s.heap [] _ h (Nat.le_refl _) (Nat.le_refl _) hl hR
        rw [Nat.sub_self, Nat.sub_self] at key
        exact key
      cases hh with
      | nil =>
        refine vx_ofW (cc := bytes) (maxL := nL) (ret := ret) hpl rfl ?_
        intro p e s m args below meth c s₁ Bd hml hno hv
        have hatoms := atoms_spec (ws := mm_cw (code, nL, Y, bytes, ret, []) :: mm_gw) Bd.pre
        refine body p e s m args below meth c _ hv Bd.exec Bd.bytes Bd.returns Bd.notSynchronized (fun w hw => hatoms w (List.mem_cons_of_mem _ hw)) (findClass_of_methodNamed Bd.named) (name_of_methodNamed Bd.named Bd.method).1 hml ?_ rfl
        cases hq : c.exceptionTable.toList with
        | nil => rfl
        | cons x r => exact (hno x (by rw [hq]; exact List.mem_cons_self)).elim
      | cons x r =>
        refine vx_ofWH (cc := bytes) (maxL := nL) (ret := ret) (hh := x :: r) hpl rfl ?_
        intro p e s m args below meth c s₁ Bd hml hv
        have hatoms := atoms_spec (ws := mm_cw (code, nL, Y, bytes, ret, x :: r) :: mm_gw) Bd.pre
        exact body p e s m args below meth c _ hv Bd.exec Bd.bytes Bd.returns Bd.notSynchronized (fun w hw => hatoms w (List.mem_cons_of_mem _ hw)) (findClass_of_methodNamed Bd.named) (name_of_methodNamed Bd.named Bd.method).1 hml (vx_table (x := Y) Bd (hatoms _ List.mem_cons_self)) rfl
    · cases h
