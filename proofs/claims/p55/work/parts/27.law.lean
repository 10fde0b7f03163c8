/-! THE LAW: its walk out of the mini machine's run. Below 'the skeleton' begins with kit/laws/SKELETON.whole (the table of handlers is read too) -/
def R_law : String := "DecisionDiagramsLaw"
def lw_P (b : Addr) (xs : List Int32) (args : Array Value) (s : State) : Prop := args = #[.ref b] ∧ s.IntsAt b xs ∧ xs.length ≤ 260 ∧ (Jvm.Cond.and given_1 narrow_1).before args s = true
def lw_Q (_ : Array Value) (s : State) (o : Outcome) (t : State) : Prop := o = .returned (some (.int 1)) ∧ Framed s o t [] 600086 7301442
def lw_Z (below : List Frame) (a : Array Value) (s : State) : State → Prop := fun t => ∃ o, t.status = .running ∧ Ended t below o ∧ lw_Q a s o t
def lw_At (p : Program) (s : State) (m : MethodId) (meth : Method) (c : Code) (b L : Nat) (xs : Nat → Int32) : Prop :=
  p.tables.exec = Jvm.exec ∧ c.code = code ∧ meth.sig.returnType = ret ∧ c.maxLocals = 8 ∧ s.vm.findClass R_law = some m.cls ∧ (∀ w ∈ lw_tbl, w.before #[Value.ref b] s = true) ∧ va_X b L xs s s.heap ∧ b < s.heap.size ∧ meth.locks = false ∧ (Jvm.Cond.and given_1 narrow_1).before #[Value.ref b] s = true
/-- the law's run of the mini machine over the script xs of L ints, from its entry, and what it says -/
def mm_law (L : Nat) (xs : Nat → Int32) (N d n : Nat) : Option mm_R := mm_go (mm_PP L xs) (mm_run (mm_PP L xs) (fun y => (mm_MT y).map (fun t => (t.1, t.2.1))) N d) mc_law n 0 (mm_entry [.ref 1000002] 8) [] ([], true, 0, 0)
def mm_goal : Prop := ∀ (L : Nat) (xs : Nat → Int32), L ≤ 260 → ∃ (N d n : Nat) (σ : mm_H), d ≤ 1280 ∧ mm_law L xs N d n = some (.inl (some (.int 1)), σ) ∧ σ.2.2.1 ≤ 600086 ∧ σ.2.2.2 ≤ 7301442
theorem mm_law_end {below : List Frame} {b : Addr} {s t : State} {rho : Nat → Nat} {opq : Nat → Value} {cA : Nat → ClassId} {D : va_G} {σ : mm_H} {mc ms : Nat} (h : vx_MQ below (mm_Qc rho opq cA D s.heap.size (.inl (some (.int 1)), σ)) (mm_XC rho opq cA D s.heap.size (.inl (some (.int 1)), σ)) #[Value.ref b] s mc ms (fun q => s.heap.size ≤ q) t) (hmc : mc ≤ 600086) (hms : ms ≤ 7301442) : lw_Z below #[Value.ref b] s t := by
  obtain ⟨o, h1, h2, h3⟩ := h
  rcases h3 with ⟨⟨⟨o9, e1, e2⟩, -⟩, L, ⟨hv, hW, hsm⟩, hL⟩ | ⟨q, -, E, ce, L, ⟨e1, -⟩, -⟩
  · cases e1
    refine ⟨o, h1, h2, e2, ?_⟩
    have hs2 : s.sameButNew ({ t with vm := s.vm } : State) [] 600086 7301442 := hsm.weaken (fun y hy hlt => absurd (hL y hy) (Nat.not_le.mpr hlt)) hmc hms
    exact ⟨hv, hW, hs2⟩
  · cases e1
theorem whole_from {p : Program} {e : Env} {s : State} {m : MethodId} {below : List Frame} {meth : Method} {c : Code} (l : Launch) (hst : l.stackTraces = false) {b L : Nat} {xs : Nat → Int32} (hL : L ≤ 260) (C0 : lw_At p s m meth c b L xs) (htab : c.exceptionTable.toList = []) (G : mm_goal) : W p l e room_1 s m #[Value.ref b] below meth c s.heap [] 0 0 (lw_Z below #[Value.ref b] s) (entryFrame m ([Value.ref b] : List Value).toArray 8) := by
  obtain ⟨hx, hb, hr, hml, hown, hts, hX, hbl, hlocks, hgv⟩ := C0
  obtain ⟨N, d, n, σ, hd, hrun, hc, hs⟩ := G L xs hL
  have hts := lx_hts hts
  obtain ⟨rho, opq, cA, D, hr1, ho, e2, hEnv⟩ := mm_start hts (flat_of_before _ hgv) hX hL hbl
  have C : mm_fr (mm_PP L xs) mm_stn mm_sts rho opq cA D s.heap.size p l s m #[Value.ref b] meth c room_1 "DecisionDiagramsLaw" "law" code [] ret 8 d :=
    ⟨hx, hb, hr, hlocks, fun w hw => hts w (List.mem_filter.mp hw).1, hown, fun z => absurd z (by decide), hml, htab, hEnv, hst, ho, hr1, by show d + 7 ≤ 2048; omega, by show 65 * (d + 1) + 150 ≤ 84000; omega⟩
  have hl := mm_entry_lh (rho := rho) ho (A := [.ref 1000002]) (nL := 8) (Nat.le_of_ble_eq_true rfl)
  have hR : mm_rel rho opq cA D s.heap.size s ([], true, 0, 0) s.heap [] (0 - 0) := ⟨fun k q hk => by simp [mm_w] at hk, va_S.rf, fun _ => ⟨rfl, rfl⟩, Nat.le_refl _, Nat.zero_le _⟩
  have key := mm_go_sim (e := e) (below := below) (n0 := 0) (s0 := 0) (res := (.inl (some (.int 1)), σ)) C (fun y A σ r h1 => mm_run_mono h1) (fun y t A σ r h1 h2 => mm_run_sim hst ho hr1 (mm_tab_all (mm_old L xs)) d y t A σ r h1 h2) (mm_law_code (mm_old L xs)) hc hs n 0 (mm_entry [.ref 1000002] 8) [] ([], true, 0, 0) s.heap [] _ hrun (Nat.le_refl _) (Nat.le_refl _) hl hR
  rw [lg_entry_eq]
  have eb : ([.ref 1000002] : List Value).map (mm_v rho opq) = [.ref b] := by simp [mm_v, e2]
  rw [eb] at key
  intro T hT X
  obtain ⟨t, a1, b1⟩ := key T hT X
  exact ⟨t, a1, mm_law_end b1 hc hs⟩
