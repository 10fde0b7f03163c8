/-! a method's contract: what the mini machine's run gives, the machine does -/
/-- code, number of locals, name, bytes, type, handlers -/
abbrev mm_M : Type := mm_Code × Nat × MethodName × ByteArray × Option FieldType × List (Nat × Nat × Nat × Nat)
def mm_cw (t : mm_M) : Cond := match t.2.2.2.2.2 with
  | [] => Cond.code t.2.2.1 t.2.2.2.1 t.2.1 t.2.2.2.2.1
  | hh => Cond.codeWith t.2.2.1 t.2.2.2.1 t.2.1 t.2.2.2.2.1 hh
def mm_gw : List Cond := lx_tbl.filter goodWord
def mm_rm (d mc ms : Nat) : Room := { frames := d + 6, cells := mc, slots := ms, locals := 65 * d + 150 }
def mm_pre (rho : Nat → Nat) (opq : Nat → Value) (cA : Nat → ClassId) (D : va_G) (B : Nat) (σ : mm_H) (H : Heap) : Prop := va_P D vwCl (mm_w rho opq cA σ.1) H ∧ (σ.2.1 = true → H.size = B + σ.1.length) ∧ B + σ.1.length ≤ H.size ∧ σ.1.length ≤ 1000000
def mm_Pc (P : mm_P) (stn : Nat → String × String × String) (sts : String → Nat → Option (Nat × String)) (rho : Nat → Nat) (opq : Nat → Value) (cA : Nat → ClassId) (D : va_G) (B : Nat) (A : List Value) (σ : mm_H) : Array Value → State → Prop := va_Pc (A.map (mm_v rho opq)) (fun U => mm_env P stn sts rho opq cA D B U ∧ mm_pre rho opq cA D B σ U.heap)
def mm_Qc (rho : Nat → Nat) (opq : Nat → Value) (cA : Nat → ClassId) (D : va_G) (B : Nat) (res : mm_R) : Array Value → State → Outcome → State → Prop := fun _ st oc t => (∃ o, res.1 = .inl o ∧ oc = .returned (o.map (mm_v rho opq))) ∧ mm_pre rho opq cA D B res.2 t.heap ∧ va_F (fun q => B ≤ q) st t
def mm_XC (rho : Nat → Nat) (opq : Nat → Value) (cA : Nat → ClassId) (D : va_G) (B : Nat) (res : mm_R) : String → State → State → Prop := fun E st t => res.1 = .inr E ∧ mm_pre rho opq cA D B res.2 t.heap ∧ va_F (fun q => B ≤ q) st t
def mm_Con (l : Launch) (P : mm_P) (stn : Nat → String × String × String) (sts : String → Nat → Option (Nat × String)) (rho : Nat → Nat) (opq : Nat → Value) (cA : Nat → ClassId) (D : va_G) (B : Nat) (t : mm_M) (d : Nat) (A : List Value) (σ : mm_H) (res : mm_R) : Prop :=
  vx_Met l t.2.2.1 (mm_cw t :: mm_gw) (mm_rm d (res.2.2.2.1 - σ.2.2.1) (res.2.2.2.2 - σ.2.2.2)) (mm_Pc P stn sts rho opq cA D B A σ) (mm_Qc rho opq cA D B res) (mm_XC rho opq cA D B res) (res.2.2.2.1 - σ.2.2.1) (res.2.2.2.2 - σ.2.2.2) (fun q => B ≤ q)
theorem mm_Pc_blind {P : mm_P} {stn : Nat → String × String × String} {sts : String → Nat → Option (Nat × String)} {rho : Nat → Nat} {opq : Nat → Value} {cA : Nat → ClassId} {D : va_G} {B : Nat} {A : List Value} {σ : mm_H} : FrameBlind (mm_Pc P stn sts rho opq cA D B A σ) :=
  fun a _ g mk h => ⟨h.1, mm_env_blind g mk a h.2.1, h.2.2⟩
theorem mm_gw_T {w : Cond} (h : w ∈ mm_gw) : w ∈ mm_T := by
  obtain ⟨h1, h2⟩ := List.mem_filter.mp h
  exact List.mem_filter.mpr ⟨h1, by show (goodWord w || mm_nest w) = true; rw [h2]; rfl⟩
theorem mm_T_ot {w : Cond} (h : w ∈ mm_T) : vx_ot w = true := by
  obtain ⟨h1, h2⟩ := List.mem_filter.mp h
  have h3 : (goodWord w || mm_nest w) = true := h2
  rw [Bool.or_eq_true] at h3
  show (w.onTables || goodWord w) = true
  rw [Bool.or_eq_true]
  rcases h3 with h3 | h3
  · exact Or.inr h3
  · exact Or.inl (mm_nest_onT h3)
/-- AbstractStringBuilder.length, which StringBuilder has again -/
def mm_zn : MethodName := ⟨RJ5, "length", "()I"⟩
theorem mm_znW : Cond.sameMethod RJ5 RJ5 "length" "()I" ∈ mm_T ∧ Cond.instanceMethod mm_zn ∈ mm_T ∧ ∃ b m r, Cond.code mm_zn b m r ∈ mm_T := ⟨by decide +kernel, by decide +kernel, prog_14_method_6_code, 1, some .int, by decide +kernel⟩
/-- a call: what is called, and how -/
def mm_iE (MT : Nat → Option mm_M) (own : String) (cc : ByteArray) (pc a b c d : Nat) : Prop := ∃ (t : mm_M) (idx n : Nat), MT a = some t ∧ mm_cw t ∈ mm_gw ∧ t.2.1 ≤ 30 ∧ Cond.initialized t.2.2.1.cls ∈ mm_T ∧ (t.2.2.1.cls ≠ "java/lang/invoke/MethodHandle" ∧ t.2.2.1.cls ≠ "java/lang/invoke/VarHandle") ∧ (parseMethodDescriptor t.2.2.1.desc).map (fun d => d.parameters.length) = some n ∧
  ((d = 0 ∧ b = n + 1 ∧ decode cc pc = .ok (.invokevirtual idx, 3) ∧ Cond.methodLink own idx t.2.2.1 ∈ mm_T ∧ Cond.instanceMethod t.2.2.1 ∈ mm_T ∧ ∃ C : String, Cond.selects C t.2.2.1 t.2.2.1 ∈ mm_T ∧ ((c = 100 ∧ C = "java/lang/String") ∨ (c ≠ 100 ∧ ∃ (T : u_T) (N : Nat), vwCl[c]? = some (C, T, N)))) ∨
   (d = 1 ∧ b = n ∧ decode cc pc = .ok (.invokestatic idx, 3) ∧ Cond.static t.2.2.1 ∈ mm_T ∧ (Cond.methodLink own idx t.2.2.1 ∈ mm_T ∨ (t.2.2.2.2.2 = [] ∧ ∃ host, Cond.methodLinkNest own idx t.2.2.1 host ∈ mm_T))) ∨
   (d = 2 ∧ b = n + 1 ∧ decode cc pc = .ok (.invokespecial idx, 3) ∧ t.2.2.1.name = "<init>" ∧ t.2.2.2.2.1 = none ∧ t.2.2.2.2.2 = [] ∧ Cond.instanceMethod t.2.2.1 ∈ mm_T ∧ (Cond.methodLink own idx t.2.2.1 ∈ mm_T ∨ ∃ host, Cond.methodLinkNest own idx t.2.2.1 host ∈ mm_T)) ∨
   (d = 3 ∧ b = n + 1 ∧ decode cc pc = .ok (.invokevirtual idx, 3) ∧ t.2.2.2.2.2 = [] ∧ Cond.methodLink own idx mm_zn ∈ mm_T ∧ Cond.instanceMethod t.2.2.1 ∈ mm_T ∧ Cond.selects RJ4 mm_zn t.2.2.1 ∈ mm_T ∧ c = 12 ∧ n = 0) ∨
   (d = 4 ∧ b = n + 1 ∧ decode cc pc = .ok (.invokespecial idx, 3) ∧ t.2.2.1.name ≠ "<init>" ∧ t.2.2.2.2.2 = [] ∧ Cond.instanceMethod t.2.2.1 ∈ mm_T ∧ Cond.methodLink own idx t.2.2.1 ∈ mm_T ∧ Cond.sameMethod t.2.2.1.cls t.2.2.1.cls t.2.2.1.name t.2.2.1.desc ∈ mm_T ∧ Cond.superclass own t.2.2.1.cls ∈ mm_T ∧ c = 12))
theorem mm_take_inv {n : Nat} {S A r : List Value} (h : mm_take n S = some (A, r)) : S = A.reverse ++ r ∧ A.length = n ∧ mm_sum r ≤ 24 := by
  unfold mm_take at h
  split at h
  · rename_i h0
    cases h
    refine ⟨by rw [List.reverse_reverse, List.take_append_drop], by rw [List.length_reverse, List.length_take]; omega, h0.2⟩
  · cases h
section MMC
variable {p : Program} {l : Launch} {e : Env} {R : Room} {s : State} {m : MethodId} {args : Array Value} {below : List Frame} {meth : Method} {c : Code} {H : Heap} {locs : List Loc} {cells slots : Nat} {Q : State → Prop}
variable {cc : ByteArray} {pc len : Nat} {ls : Array Slot} {rho : Nat → Nat} {opq : Nat → Value} {cA : Nat → ClassId} {D : va_G} {B : Nat} {P : mm_P} {σ : mm_H} {stn : Nat → String × String × String} {sts : String → Nat → Option (Nat × String)} {own : String}
theorem mm_vback {t : mm_M} {d : Nat} {A : List Value} {res : mm_R} (hM : mm_Con l P stn sts rho opq cA D B t d A σ res) (hfr : d + 7 ≤ R.frames) (hlo : 65 * (d + 1) + 150 ≤ R.locals) (hnL : t.2.1 ≤ 30) (hts : ∀ w ∈ mm_T, w.before args s = true) (hcw : mm_cw t ∈ mm_gw) (hini : Cond.initialized t.2.2.1.cls ∈ mm_T) :
    vx_Back l R p e below s args t.2.2.1 3 24 (PreOf R (res.2.2.2.1 - σ.2.2.1) (res.2.2.2.2 - σ.2.2.2) (mm_Pc P stn sts rho opq cA D B A σ)) (PostOf (mm_Qc rho opq cA D B res) (res.2.2.2.1 - σ.2.2.1) (res.2.2.2.2 - σ.2.2.2) (fun q => B ≤ q)) (vx_Post (mm_XC rho opq cA D B res) (res.2.2.2.1 - σ.2.2.1) (res.2.2.2.2 - σ.2.2.2) (fun q => B ≤ q)) := by
  have hws : ∀ w ∈ mm_cw t :: mm_gw, ∀ (a' : Array Value) (U : State), s.WarmedH U.vm → w.before a' U = true := by
    intro w hw a' U hW
    have hw2 : w ∈ mm_gw := (List.mem_cons.mp hw).elim (fun q => by rw [q]; exact hcw) id
    exact word_at hW (good_of_word (List.mem_filter.mp hw2).2) (hts _ (mm_gw_T hw2))
  have hin : ∀ (a' : Array Value) (U : State), s.WarmedH U.vm → (Cond.initialized t.2.2.1.cls).before a' U = true := fun a' U hW => word_at hW (Or.inl (by first | rfl | simp [Cond.onTables, Cond.keeps, Cond.steady])) (hts _ hini)
  obtain ⟨code, nL, Y, bytes, ret, hh⟩ := t
  have hl1 : 24 + (nL + 11) + (65 * d + 150) ≤ R.locals := by
    have h9 : nL ≤ 30 := hnL
    omega
  cases hh with
  | nil => exact vx_back (bytes := bytes) (maxL := nL) (ret := ret) hM mm_Pc_blind rfl rfl hfr hl1 hws List.mem_cons_self hin
  | cons x y => exact vx_backW (hh := x :: y) (bytes := bytes) (maxL := nL) (ret := ret) hM mm_Pc_blind rfl rfl hfr hl1 hws List.mem_cons_self hin
/-- a call's two ends -/
def mm_cr (p : Program) (l : Launch) (e : Env) (R : Room) (s : State) (m : MethodId) (args : Array Value) (below : List Frame) (meth : Method) (c : Code) (locs : List Loc) (cells slots : Nat) (g : JFrame) (rest : List Value) (a : Array Value) (Post : Pt → Array Value → Option Value → Pt → Prop) (PostX : Pt → Array Value → Addr → Pt → Prop) (T : State) : Prop :=
  (∃ (v : Option Value) (vm₁ : Vm) (B : Pt), s.WarmedH vm₁ ∧ Stand p l e R s m args below meth c B.U B.locs B.cells B.slots ∧ Post ⟨T.setVm vm₁, locs, cells, slots⟩ a v B ∧
    ∀ target, Steps p.tables e below (B.U.setTop { g with pc := g.pc + 3, stack := v.toList ++ rest }) target → Steps p.tables e below (T.setTop g) target) ∨
  (∃ (q : Addr) (vm₁ : Vm) (B : Pt), s.WarmedH vm₁ ∧ Stand p l e R s m args below meth c B.U B.locs B.cells B.slots ∧ PostX ⟨T.setVm vm₁, locs, cells, slots⟩ a q B ∧
    Steps p.tables e below (T.setTop g) ((B.U.setTop { g with stack := rest }).pushFrame (.throwing q)))
theorem mm_run_of {mc ms : Nat} {Qc : Array Value → State → Outcome → State → Prop} {XC : String → State → State → Prop} {free : Addr → Prop} {g : JFrame} {rest : List Value} {a : Array Value} (h : ∀ T : State, T.heap = H → Stand p l e R s m args below meth c T locs cells slots → mm_cr p l e R s m args below meth c locs cells slots g rest a (PostOf Qc mc ms free) (vx_Post XC mc ms free) T) :
    vx_Run p l e R s m args below meth c H locs cells slots mc ms g rest (Qc a) XC free := by
  intro T hT X
  rcases h T hT X with ⟨v, vm₁, ⟨U', l2, c2, s2⟩, hW₁, X', ⟨g', mk, t, L, e1, e2, hq, h1, hL, h2, h3⟩, st⟩ | ⟨q, vm₁, ⟨U', l2, c2, s2⟩, hW₁, X', ⟨g', mk, t, L, E, ce, e1, e2, hq, hce, hcv, hcl, h1, hL, h2, h3⟩, st⟩
  · dsimp only [Pt.U, Pt.locs, Pt.cells, Pt.slots] at X' e1 e2 h1 h2 h3 st
    subst h1; subst h2; subst h3
    exact Or.inl ⟨v, (T.setVm vm₁).calling g' mk a, t, U', L, hT, X', hL, e1, e2, hq, st⟩
  · dsimp only [Pt.U, Pt.locs, Pt.cells, Pt.slots] at X' e1 e2 h1 h2 h3 st hcl
    subst h1; subst h2; subst h3
    exact Or.inr ⟨q, (T.setVm vm₁).calling g' mk a, t, U', L, E, ce, hT, X', hL, e1, e2, hq, hce, hcv, vx_cls hW₁ hcl, st⟩
/-- the three kinds of call -/
theorem mm_inv_run {MT : Nat → Option mm_M} {a b ci d9 : Nat} {S A r : List Value} {res : mm_R} {d : Nat} (hx : p.tables.exec = Jvm.exec) (hb : c.code = cc) (ho : mm_opq opq) (hts : ∀ w ∈ mm_T, w.before args s = true) (hown : s.vm.findClass own = some m.cls) (hEnv : mm_env P stn sts rho opq cA D B s) (hml : c.maxLocals = ls.size) (hfr : d + 7 ≤ R.frames) (hlo : 65 * (d + 1) + 150 ≤ R.locals)
    (hR : mm_rel rho opq cA D B s σ H locs cells) (hE : mm_iE MT own cc pc a b ci d9) (ht : mm_take b S = some (A, r)) (hi : d9 = 1 ∨ mm_isr P σ ci A = true) (hM : ∀ t, MT a = some t → mm_Con l P stn sts rho opq cA D B t d A σ res) (hcells : cells + (res.2.2.2.1 - σ.2.2.1) ≤ R.cells) (hslots : slots + (res.2.2.2.2 - σ.2.2.2) ≤ R.slots) :
    vx_Run p l e R s m args below meth c H locs cells slots (res.2.2.2.1 - σ.2.2.1) (res.2.2.2.2 - σ.2.2.2) (F0 m pc ls (S.map (mm_v rho opq))) (r.map (mm_v rho opq)) (mm_Qc rho opq cA D B res (A.map (mm_v rho opq)).toArray) (mm_XC rho opq cA D B res) (fun q => B ≤ q) := by
  obtain ⟨t, idx, n, e1, e2, e3, e4, e5, e6, e7⟩ := hE
  obtain ⟨f1, f2, f3⟩ := mm_take_inv ht
  have hK := mm_vback (p := p) (e := e) (below := below) (hM t e1) hfr hlo e3 hts e2 e4
  have hmon : 2 * (F0 m pc ls (S.map (mm_v rho opq))).monitorRoom + ((r.map (mm_v rho opq)).map fun v => v.category).sum ≤ 24 := by
    show 2 * 0 + ((r.map (mm_v rho opq)).map fun v => v.category).sum ≤ 24
    rw [mm_sum_v ho]
    omega
  have hpre : ∀ T : State, T.heap = H → ∀ vm₁, s.WarmedH vm₁ → PreOf R (res.2.2.2.1 - σ.2.2.1) (res.2.2.2.2 - σ.2.2.2) (mm_Pc P stn sts rho opq cA D B A σ) ⟨T.setVm vm₁, locs, cells, slots⟩ (A.map (mm_v rho opq)).toArray := by
    intro T hT vm₁ hW
    refine ⟨hcells, hslots, rfl, mm_env_to (U := T.setVm vm₁) hEnv hR.2.1 hT hW, ?_, ?_, ?_, hR.2.2.2.2⟩
    · show va_P D vwCl _ T.heap
      rw [hT]; exact hR.1
    · intro hc
      show T.heap.size = _
      rw [hT]; exact (hR.2.2.1 hc).1
    · show _ ≤ T.heap.size
      rw [hT]; exact hR.2.2.2.1
  have hcd : (mm_cw t).before args s = true := hts _ (mm_gw_T e2)
  obtain ⟨code, nL, Y, bytes, ret, hh⟩ := t
  have hlen : ∀ (q : Nat), q = n → ∀ sig, parseMethodDescriptor Y.desc = some sig → q = sig.parameters.length := by
    intro q hq sig hs
    have h9 : (parseMethodDescriptor Y.desc).map (fun d => d.parameters.length) = some n := e6
    rw [hs] at h9
    rw [hq]
    exact (Option.some.inj h9).symm
  refine mm_run_of fun T hT X => ?_
  rcases e7 with ⟨rfl, g1, g2, g3, g4, C, g5, g6⟩ | ⟨rfl, g1, g2, g3, g4⟩ | ⟨rfl, g1, g2, g3, g4, g5, g6, g7⟩ | ⟨rfl, g1, g2, g3, g4, g5, g6, rfl, rfl⟩ | ⟨rfl, g1, g2, g3, g4, g5, g6, g7, g8, rfl⟩
  · have hi2 : mm_isr P σ ci A = true := hi.elim (fun z => nomatch z) id
    obtain ⟨b9, As, rfl⟩ : ∃ b9 As, A = .ref b9 :: As := by
      unfold mm_isr at hi2
      split at hi2
      · exact ⟨_, _, rfl⟩
      · cases hi2
    obtain ⟨cellB, hcB, hoB, hclB⟩ : ∃ cellB : Cell, H[rho b9]? = some cellB ∧ cellB.vm.isStatics = false ∧ s.vm.findClass C = some cellB.cls := by
      simp only [mm_isr] at hi2
      rcases g6 with ⟨rfl, rfl⟩ | ⟨hne, T9, N9, g6⟩
      · rw [if_pos rfl] at hi2
        split at hi2
        · split at hi2
          · rename_i c9 fs9 h9
            have e9 : c9 = 11 := by simpa using hi2
            subst e9
            exact va_recv (q := (RJ0, TJ0, 4)) hEnv.1 hR.1 rfl (mm_w_at h9)
          · cases hi2
        · obtain ⟨v9, hv9⟩ := Option.isSome_iff_exists.mp hi2
          obtain ⟨cell, h1, h2, h3, -⟩ := (hEnv.2.2.2.2.2.1 b9 0 v9 hv9).2.kept hR.2.1.2.1
          exact ⟨cell, h1, h2, h3⟩
      · rw [if_neg hne] at hi2
        split at hi2
        · rename_i c9 fs9 h9
          have e9 : c9 = ci := by simpa using hi2
          subst e9
          exact va_recv hEnv.1 hR.1 g6 (mm_w_at h9)
        · cases hi2
    have hAs : As.length = n := by simp only [List.length_cons] at f2; omega
    have hst : S.map (mm_v rho opq) = (As.map (mm_v rho opq)).reverse ++ .ref (rho b9) :: r.map (mm_v rho opq) := by
      rw [f1]
      simp [mm_v]
    cases hh with
    | nil => exact vx_callV X hx (C := C) (bytes := bytes) (maxL := nL) (ret := ret) hown (hts _ g3) (hts _ g4) (hts _ g5) hcd e5 hK (by rw [hT]; exact hcB) hoB hclB rfl hml.symm (argsL := As.map (mm_v rho opq)) (rest := r.map (mm_v rho opq)) (hlen _ (by rw [List.length_map]; exact hAs)) hst hmon (by rw [hb]; exact g2) (hpre T hT)
    | cons x y => exact vx_callVX X hx (C := C) (hh := x :: y) (bytes := bytes) (maxL := nL) (ret := ret) hown (hts _ g3) (hts _ g4) (hts _ g5) hcd e5 hK (by rw [hT]; exact hcB) hoB hclB rfl hml.symm (argsL := As.map (mm_v rho opq)) (rest := r.map (mm_v rho opq)) (hlen _ (by rw [List.length_map]; exact hAs)) hst hmon (by rw [hb]; exact g2) (hpre T hT)
  · have hst : S.map (mm_v rho opq) = (A.map (mm_v rho opq)).reverse ++ r.map (mm_v rho opq) := by
      rw [f1]
      simp
    rcases g4 with g4 | ⟨rfl, host, g4⟩
    · cases hh with
      | nil => exact vx_callS X hx (bytes := bytes) (maxL := nL) (ret := ret) hown (hts _ g4) (hts _ g3) (hts _ e4) hcd e5 hK rfl hml.symm (argsL := A.map (mm_v rho opq)) (rest := r.map (mm_v rho opq)) (hlen _ (by rw [List.length_map]; omega)) hst hmon (by rw [hb]; exact g2) (hpre T hT)
      | cons x y => exact vx_callSX X hx (hh := x :: y) (bytes := bytes) (maxL := nL) (ret := ret) hown (hts _ g4) (hts _ g3) (hts _ e4) hcd e5 hK rfl hml.symm (argsL := A.map (mm_v rho opq)) (rest := r.map (mm_v rho opq)) (hlen _ (by rw [List.length_map]; omega)) hst hmon (by rw [hb]; exact g2) (hpre T hT)
    · exact vx_callSN X hx (bytes := bytes) (maxL := nL) (ret := ret) hown (hts _ g4) (hts _ g3) (hts _ e4) hcd e5 hK rfl hml.symm (argsL := A.map (mm_v rho opq)) (rest := r.map (mm_v rho opq)) (hlen _ (by rw [List.length_map]; omega)) hst hmon (by rw [hb]; exact g2) (hpre T hT)
  · have hi2 : mm_isr P σ ci A = true := hi.elim (fun z => nomatch z) id
    obtain ⟨b9, As, rfl⟩ : ∃ b9 As, A = .ref b9 :: As := by
      unfold mm_isr at hi2
      split at hi2
      · exact ⟨_, _, rfl⟩
      · cases hi2
    have hAs : As.length = n := by simp only [List.length_cons] at f2; omega
    have hst : S.map (mm_v rho opq) = (As.map (mm_v rho opq)).reverse ++ .ref (rho b9) :: r.map (mm_v rho opq) := by
      rw [f1]
      simp [mm_v]
    dsimp only at g3 g4 g5
    subst g4; subst g5
    rcases g7 with g7 | ⟨host, g7⟩
    · exact vx_callI X hx (bytes := bytes) (maxL := nL) hown g3 (hts _ g7) (hts _ g6) hcd e5 hK rfl hml.symm (argsL := As.map (mm_v rho opq)) (rest := r.map (mm_v rho opq)) (hlen _ (by rw [List.length_map]; exact hAs)) hst hmon (by rw [hb]; exact g2) (hpre T hT)
    · exact vx_callIN X hx (bytes := bytes) (maxL := nL) hown g3 (hts _ g7) (hts _ g6) hcd e5 hK rfl hml.symm (argsL := As.map (mm_v rho opq)) (rest := r.map (mm_v rho opq)) (hlen _ (by rw [List.length_map]; exact hAs)) hst hmon (by rw [hb]; exact g2) (hpre T hT)
  · have hi2 : mm_isr P σ 12 A = true := hi.elim (fun z => nomatch z) id
    obtain ⟨b9, As, rfl⟩ : ∃ b9 As, A = .ref b9 :: As := by
      unfold mm_isr at hi2
      split at hi2
      · exact ⟨_, _, rfl⟩
      · cases hi2
    obtain ⟨cellB, hcB, hoB, hclB⟩ : ∃ cellB : Cell, H[rho b9]? = some cellB ∧ cellB.vm.isStatics = false ∧ s.vm.findClass RJ4 = some cellB.cls := by
      simp only [mm_isr] at hi2
      rw [if_neg (show ¬ (12 : Nat) = 100 by decide)] at hi2
      split at hi2
      · rename_i c9 fs9 h9
        have e9 : c9 = 12 := by simpa using hi2
        subst e9
        exact va_recv (q := (RJ4, TJ4, 4)) hEnv.1 hR.1 rfl (mm_w_at h9)
      · cases hi2
    have hAs : As.length = 0 := by simp only [List.length_cons] at f2; omega
    have hst : S.map (mm_v rho opq) = (As.map (mm_v rho opq)).reverse ++ .ref (rho b9) :: r.map (mm_v rho opq) := by
      rw [f1]
      simp [mm_v]
    dsimp only at g3
    subst g3
    obtain ⟨z1, z2, bz, mz, rz, z3⟩ := mm_znW
    have hd0 : va_Decl s ⟨RJ5, mm_zn.name, mm_zn.desc⟩ := va_Decl.of (x := mm_zn) (hts _ z2) (hts _ z3)
    exact vx_callVU X hx (C := RJ4) (owner := RJ5) (x := mm_zn) (bytes := bytes) (maxL := nL) (ret := ret) hown (hts _ g4) (hts _ z1) hd0 ⟨by decide +kernel, by decide +kernel⟩ (hts _ g6) (hts _ g5) hcd hK (by rw [hT]; exact hcB) hoB hclB rfl hml.symm (argsL := As.map (mm_v rho opq)) (rest := r.map (mm_v rho opq)) (fun sig hs => by
      have h9 : (parseMethodDescriptor "()I").map (fun d => d.parameters.length) = some 0 := by decide +kernel
      rw [show parseMethodDescriptor "()I" = some sig from hs] at h9
      rw [List.length_map, hAs]
      exact (Option.some.inj h9).symm) hst hmon (by rw [hb]; exact g2) (hpre T hT)
  · have hi2 : mm_isr P σ 12 A = true := hi.elim (fun z => nomatch z) id
    obtain ⟨b9, As, rfl⟩ : ∃ b9 As, A = .ref b9 :: As := by
      unfold mm_isr at hi2
      split at hi2
      · exact ⟨_, _, rfl⟩
      · cases hi2
    obtain ⟨cellB, hcB, hoB, hclB⟩ : ∃ cellB : Cell, H[rho b9]? = some cellB ∧ cellB.vm.isStatics = false ∧ s.vm.findClass RJ4 = some cellB.cls := by
      simp only [mm_isr] at hi2
      rw [if_neg (show ¬ (12 : Nat) = 100 by decide)] at hi2
      split at hi2
      · rename_i c9 fs9 h9
        have e9 : c9 = 12 := by simpa using hi2
        subst e9
        exact va_recv (q := (RJ4, TJ4, 4)) hEnv.1 hR.1 rfl (mm_w_at h9)
      · cases hi2
    have hAs : As.length = n := by simp only [List.length_cons] at f2; omega
    have hst : S.map (mm_v rho opq) = (As.map (mm_v rho opq)).reverse ++ .ref (rho b9) :: r.map (mm_v rho opq) := by
      rw [f1]
      simp [mm_v]
    dsimp only at g4
    subst g4
    obtain ⟨hfc, kB, hkB, -⟩ := (hEnv.1.1 12 (RJ4, TJ4, 4) rfl).2
    rw [Option.some.inj (hfc.symm.trans hclB)] at hkB
    exact vx_callSU X hx (bytes := bytes) (maxL := nL) (ret := ret) hown (hts _ g6) (hts _ g7) (hts _ g8) (hts _ g5) hcd g3 hK (by rw [hT]; exact hcB) hoB hkB rfl hml.symm (argsL := As.map (mm_v rho opq)) (rest := r.map (mm_v rho opq)) (hlen _ (by rw [List.length_map]; exact hAs)) hst hmon (by rw [hb]; exact g2) (hpre T hT)
end MMC
