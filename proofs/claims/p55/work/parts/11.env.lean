/-- a String object's fields by number -/
def mm_sf (k : Nat) : String × String := match k with
  | 0 => ("value", "[B")
  | _ => ("coder", "B")
/-- the exceptions' classes -/
def mm_ex : List String := ["java/lang/IllegalArgumentException"]
/-- what a frame's start state is known to have: the classes, the words that are not good ones, the old arrays, the String constants, the statics, what a throw needs -/
def mm_env (P : mm_P) (stn : Nat → String × String × String) (sts : String → Nat → Option (Nat × String)) (rho : Nat → Nat) (opq : Nat → Value) (cA : Nat → ClassId) (D : va_G) (B : Nat) (U : State) : Prop :=
  va_K D vwCl (mm_tys cA) U ∧ (∀ w ∈ mm_T, mm_nest w = true → va_Nw w U) ∧ va_AO RX5 U ∧ mm_oldA P rho B U U.heap ∧
  (∀ (own : String) (i sid : Nat) (tx : String), sts own i = some (sid, tx) → vk_R own i tx (rho (2000000 + sid)) U) ∧
  (∀ (a k : Nat) (v : Value), P.2.1 a k = some v → va_OF "java/lang/String" (mm_sf k).1 (mm_sf k).2 (mm_v rho opq v) (rho a) (fun q => B ≤ q) U U.heap ∧ va_O "java/lang/String" (rho a) (fun q => B ≤ q) U U.heap) ∧
  (∀ (a : Nat) (v : Value), P.2.2.2.1 a = some v → va_Z (stn a).1 (stn a).2.1 (stn a).2.2 (mm_v rho opq v) (fun q => B ≤ q) U U.heap) ∧
  vx_Zq Bundle.tN "UNASSIGNED_STACK" Bundle.steD (fun q => B ≤ q) U U.heap ∧ vx_Zq Bundle.tN "SUPPRESSED_SENTINEL" Bundle.listD (fun q => B ≤ q) U U.heap ∧
  (∀ E ∈ mm_ex, ∀ E' ∈ mm_ex, E ≠ E' → va_Nc E E' U)
theorem mm_nest_to {w : Cond} (hw : mm_nest w = true) {s U : State} (hW : s.WarmedH U.vm) (h : va_Nw w s) : va_Nw w U := by
  cases w <;> simp only [mm_nest, reduceCtorEq, Bool.false_eq_true] at hw
  case fieldLinkNest => exact va_Nw.warmF hW h
  case methodLinkNest => exact va_Nw.warmM hW h
  case declares => exact va_Nw.warmD hW h
  case castable a b =>
    have h1 : (Cond.castable a b).before #[] (s.setVm U.vm) = true := by rw [Cond.castable_setVm hW.alike]; exact h
    exact va_tabs rfl (rfl : (s.setVm U.vm).vm = U.vm) h1
theorem mm_nest_onT {w : Cond} (hw : mm_nest w = true) : w.onTables = true := by
  cases w <;> first | rfl | (simp only [mm_nest, reduceCtorEq, Bool.false_eq_true] at hw)
theorem mm_env_to {P : mm_P} {stn : Nat → String × String × String} {sts : String → Nat → Option (Nat × String)} {rho : Nat → Nat} {opq : Nat → Value} {cA : Nat → ClassId} {D : va_G} {B : Nat} {s U : State} {H : Heap} {locs : List Loc} (h : mm_env P stn sts rho opq cA D B s) (hS : va_S (fun q => B ≤ q) s.heap H locs) (hU : U.heap = H) (hW : s.WarmedH U.vm) : mm_env P stn sts rho opq cA D B U := by
  obtain ⟨h1, h2, h3, h4, h5, h6, h7, h8, h9, h10⟩ := h
  subst hU
  have hA := hW.alike
  refine ⟨va_K.moved hA h1, fun w hw hn => mm_nest_to hn hW (h2 w hw hn), va_AO.moved hA h3, fun a t x he hl => va_T.moved hA ((h4 a t x he hl).kept hS.2.1), fun own i sid tx he => vk_R.warm hW (h5 own i sid tx he), fun a k v he => ⟨va_OF.moved hA ((h6 a k v he).1.kept hS.2.1), va_O.moved hA ((h6 a k v he).2.kept hS.2.1)⟩, fun a v he => va_Z.moved hA ((h7 a v he).kept hS.2.1), vx_Zq.moved hA (h8.kept hS.2.1), vx_Zq.moved hA (h9.kept hS.2.1), fun E hE E' hE' hn => va_Nc.moved hA (h10 E hE E' hE' hn)⟩
theorem mm_env_blind {P : mm_P} {stn : Nat → String × String × String} {sts : String → Nat → Option (Nat × String)} {rho : Nat → Nat} {opq : Nat → Value} {cA : Nat → ClassId} {D : va_G} {B : Nat} {U : State} (g : JFrame) (mk : MethodId) (a : Array Value) (h : mm_env P stn sts rho opq cA D B U) : mm_env P stn sts rho opq cA D B (U.calling g mk a) :=
  mm_env_to (locs := []) h va_S.rf rfl (State.WarmedH.refl U)
/-- the words of mm_T, in a frame -/
theorem mm_words {args : Array Value} {s : State} (h1 : ∀ w ∈ lx_tbl.filter goodWord, w.before args s = true) (h2 : ∀ w ∈ mm_T, mm_nest w = true → va_Nw w s) : ∀ w ∈ mm_T, w.before args s = true := by
  intro w hw
  cases hn : mm_nest w with
  | true => exact va_Nw.use (mm_nest_onT hn) (h2 w hw hn)
  | false =>
    obtain ⟨g1, g2⟩ := List.mem_filter.mp hw
    rw [hn, Bool.or_false] at g2
    exact h1 w (List.mem_filter.mpr ⟨g1, g2⟩)
/-- a constant -/
def mm_kE (own : String) (cc : ByteArray) (pc len : Nat) (v : Value) : Prop :=
  (∃ (idx : Nat) (x : Int32), v = .int x ∧ Cond.constant own idx x ∈ mm_T ∧ ((decode cc pc = .ok (.ldc idx, 2) ∧ len = 2) ∨ (decode cc pc = .ok (.ldc_w idx, 3) ∧ len = 3))) ∨
  (∃ (idx : Nat) (x : Int64), v = .long x ∧ Cond.constantLong own idx x ∈ mm_T ∧ decode cc pc = .ok (.ldc2_w idx, 3) ∧ len = 3) ∨
  (∃ (idx : Nat) (x : UInt64), v = .double x ∧ Cond.constantDouble own idx x ∈ mm_T ∧ decode cc pc = .ok (.ldc2_w idx, 3) ∧ len = 3)
section MMK
variable {p : Program} {l : Launch} {e : Env} {R : Room} {s : State} {m : MethodId} {args : Array Value} {below : List Frame} {meth : Method} {c : Code} {H : Heap} {locs : List Loc} {cells slots : Nat} {Q : State → Prop}
variable {cc : ByteArray} {pc len : Nat} {ls : Array Slot} {rho : Nat → Nat} {opq : Nat → Value} {cA : Nat → ClassId} {D : va_G} {B : Nat} {P : mm_P} {σ : mm_H} {stn : Nat → String × String × String} {sts : String → Nat → Option (Nat × String)} {own : String}
theorem mm_kon_sim (hx : p.tables.exec = Jvm.exec) (hb : c.code = cc) (hts : ∀ w ∈ mm_T, w.before args s = true) (hown : s.vm.findClass own = some m.cls) {v : Value} {S : List Value} (hE : mm_kE own cc pc len v)
    (k : W p l e R s m args below meth c H locs cells slots Q (F0 m (pc + len) ls ((v :: S).map (mm_v rho opq)))) : W p l e R s m args below meth c H locs cells slots Q (F0 m pc ls (S.map (mm_v rho opq))) := by
  rcases hE with ⟨idx, x, rfl, h1, ⟨h2, rfl⟩ | ⟨h2, rfl⟩⟩ | ⟨idx, x, rfl, h1, h2, rfl⟩ | ⟨idx, x, rfl, h1, h2, rfl⟩
  · exact lv_ldc hx hb hown (hts _ h1) h2 k
  · exact lv_ldcw hx hb hown (hts _ h1) h2 k
  · exact lv_ldc2 hx hb hown (hts _ h1) h2 k
  · exact lv_ldc2d hx hb hown (hts _ h1) h2 k
theorem mm_str_sim (hx : p.tables.exec = Jvm.exec) (hb : c.code = cc) (hown : s.vm.findClass own = some m.cls) (hEnv : mm_env P stn sts rho opq cA D B s) {idx sid : Nat} {tx : String} {S : List Value} (hs : sts own idx = some (sid, tx)) (hd : (decode cc pc = .ok (.ldc idx, 2) ∧ len = 2) ∨ (decode cc pc = .ok (.ldc_w idx, 3) ∧ len = 3))
    (k : W p l e R s m args below meth c H locs cells slots Q (F0 m (pc + len) ls ((.ref (2000000 + sid) :: S).map (mm_v rho opq)))) : W p l e R s m args below meth c H locs cells slots Q (F0 m pc ls (S.map (mm_v rho opq))) := by
  have hZ := hEnv.2.2.2.2.1 own idx sid tx hs
  rcases hd with ⟨hd, rfl⟩ | ⟨hd, rfl⟩
  · exact va_ldcS hx hb hown hZ hd k
  · intro T hT X
    obtain ⟨t, a1, b1⟩ := k T hT X
    exact ⟨t, X.ldcStringW hx hown (text := tx) (a := rho (2000000 + sid)) hZ.1 hZ.2 (g := F0 m pc ls (S.map (mm_v rho opq))) rfl (by rw [hb]; exact hd) t a1, b1⟩
theorem mm_sta_sim (hx : p.tables.exec = Jvm.exec) (hb : c.code = cc) (hts : ∀ w ∈ mm_T, w.before args s = true) (hown : s.vm.findClass own = some m.cls) (hEnv : mm_env P stn sts rho opq cA D B s) (hS : va_S (fun q => B ≤ q) s.heap H locs) {idx a : Nat} {v : Value} {S : List Value} (hv : P.2.2.2.1 a = some v) (hd : decode cc pc = .ok (.getstatic idx, 3)) (hE : Cond.fieldLink own idx (stn a).1 (stn a).2.1 (stn a).2.2 ∈ mm_T)
    (k : W p l e R s m args below meth c H locs cells slots Q (F0 m (pc + 3) ls ((v :: S).map (mm_v rho opq)))) : W p l e R s m args below meth c H locs cells slots Q (F0 m pc ls (S.map (mm_v rho opq))) :=
  va_gets hx hb (hEnv.2.2.2.2.2.2.1 a v hv) hS hown (hts _ hE) (fun _ h9 => h9) hd k
theorem mm_getO_sim (hx : p.tables.exec = Jvm.exec) (hb : c.code = cc) (hts : ∀ w ∈ mm_T, w.before args s = true) (hown : s.vm.findClass own = some m.cls) (hEnv : mm_env P stn sts rho opq cA D B s) (hS : va_S (fun q => B ≤ q) s.heap H locs) {idx j : Nat} {S r : List Value} (hP : va_P D vwCl (mm_w rho opq cA σ.1) H) (h : mm_getO P σ j S = some r) (hj : j < 2) (hd : decode cc pc = .ok (.getfield idx, 3)) (hE : Cond.fieldLink own idx "java/lang/String" (mm_sf j).1 (mm_sf j).2 ∈ mm_T)
    (k : W p l e R s m args below meth c H locs cells slots Q (F0 m (pc + 3) ls (r.map (mm_v rho opq)))) : W p l e R s m args below meth c H locs cells slots Q (F0 m pc ls (S.map (mm_v rho opq))) := by
  unfold mm_getO at h
  split at h
  · split at h
    · refine mm_getf_sim hx hb hts hown hEnv.1 hP h hd ⟨RJ0, TJ0, 4, rfl, by omega, Or.inl ?_⟩ k
      rcases (show j = 0 ∨ j = 1 by omega) with rfl | rfl <;> exact hE
    · split at h
      · rename_i h1
        cases h
        exact vk_getf hx hb (hEnv.2.2.2.2.2.1 _ _ _ h1).1 hS hown (hts _ hE) (fun _ h9 => h9) hd k
      · cases h
  · cases h
/-- a return instruction, its method's type -/
def mm_rE (a : Nat) (i : Instr) (ret : Option FieldType) : Prop := match i with
  | .ireturn => ret = some (mm_rt a)
  | .lreturn => ret = some .long
  | .dreturn => ret = some .double
  | .areturn => (∃ n, ret = some (.object n)) ∨ ∃ n, ret = some (.array n)
  | .return_ => ret = none
  | _ => False
theorem mm_ret_sim {Qc : Array Value → State → Outcome → State → Prop} {free : Addr → Prop} {rt : Option FieldType} (hx : p.tables.exec = Jvm.exec) (hb : c.code = cc) (hr : meth.sig.returnType = rt) (hlocks : meth.locks = false) {a : Nat} {i : Instr} {S : List Value} {o : Option Value} (h : mm_ret a i S = some o) (hd : decode cc pc = .ok (i, len)) (hn : len = mm_len i) (hE : mm_rE a i rt)
    (hq : ∀ t : State, t.heap = H → s.WarmedH t.vm → Qc args s (.returned (o.map (mm_v rho opq))) t) (hf : ∀ q ∈ locs, free q.base) : W p l e R s m args below meth c H locs cells slots (MQ below Qc args s cells slots free) (F0 m pc ls (S.map (mm_v rho opq))) := by
  subst hn
  cases i <;> simp only [mm_ret, reduceCtorEq] at h
  case ireturn =>
    split at h
    · split at h
      · rename_i h0
        cases h
        have hn : ∀ v : Int32, a = 0 ∨ narrow (mm_rt a) (.int v) = .int v → narrow (mm_rt a) (.int v) = .int v := by
          intro v hv
          rcases hv with rfl | hv
          · rfl
          · exact hv
        exact W.zret hx hb (hr.trans hE) (hn _ h0) hq hf hd
      · cases h
    · cases h
  case lreturn =>
    split at h
    · cases h
      exact W.lret hx hb (hr.trans hE) hq hf hd
    · cases h
  case dreturn =>
    split at h
    · cases h
      exact W.dret hx hb (hr.trans hE) hq hf hd
    · cases h
  case areturn =>
    rcases hE with ⟨n, hE⟩ | ⟨n, hE⟩
    · split at h
      · cases h
        exact W.aret hx hb (hr.trans hE) (Or.inl ⟨n, rfl⟩) (Or.inr ⟨_, rfl⟩) hq hf hd
      · cases h
        exact W.aret hx hb (hr.trans hE) (Or.inl ⟨n, rfl⟩) (Or.inl rfl) hq hf hd
      · cases h
    · split at h
      · cases h
        exact W.aret hx hb (hr.trans hE) (Or.inr ⟨n, rfl⟩) (Or.inr ⟨_, rfl⟩) hq hf hd
      · cases h
        exact W.aret hx hb (hr.trans hE) (Or.inr ⟨n, rfl⟩) (Or.inl rfl) hq hf hd
      · cases h
  case return_ =>
    split at h
    · cases h
      exact W.vret hx hb (hr.trans hE) hq hf hd
    · cases h
end MMK
