/-! private methods of AbstractStringBuilder, called on a StringBuilder: they select themselves -/
def lx_y : List MethodName := [⟨RJ5, "ensureCapacityInternal", "(I)V"⟩, ⟨RJ5, "newCapacity", "(I)I"⟩, ⟨RJ5, "putStringAt", "(ILjava/lang/String;)V"⟩, ⟨RJ5, "inflateIfNeededFor", "(Ljava/lang/String;)V"⟩]
def lx_sel : List Cond := lx_y.map (fun y => Cond.selects RJ4 y y)
def lx_tbl : List Cond := lx_sel ++ lw_tbl
def lx_gv : MethodName := ⟨RJ5, "getValue", "()[B"⟩
theorem lx_W : Cond.selects RJ4 lx_gv lx_gv ∈ lw_tbl ∧ ∀ y ∈ lx_y, Cond.privateMethod y ∈ lw_tbl ∧ Cond.instanceMethod y ∈ lw_tbl ∧ y.cls = RJ5 := ⟨by decide +kernel, by decide +kernel⟩
theorem lx_hts {args : Array Value} {s : State} (hts : ∀ w ∈ lw_tbl, w.before args s = true) : ∀ w ∈ lx_tbl, w.before args s = true := by
  intro w hw
  rcases List.mem_append.mp hw with hw | hw
  · obtain ⟨y, hy, rfl⟩ := List.mem_map.mp hw
    obtain ⟨h1, h2, h3⟩ := lx_W.2 y hy
    obtain ⟨c, r, m, q1, q2, q3, q4, kP, hkP, hni⟩ := Cond.selects_spec (args := args) (first := s) (o := none) (s := s) (idx := []) (hts _ lx_W.1)
    obtain ⟨mk, methM, hnamed, hmethM, -, -⟩ := Cond.instanceMethod_spec (hts _ h2)
    have hyc : y.cls ≠ "java/lang/invoke/MethodHandle" ∧ y.cls ≠ "java/lang/invoke/VarHandle" := by
      rw [h3]
      exact ⟨by decide +kernel, by decide +kernel⟩
    have hfound : s.methodFound? y.cls y.name y.desc = some mk := State.methodFound?_of_named hnamed hyc
    have e1 : s.vm.findClass y.cls = some mk.cls := findClass_of_methodNamed hnamed
    have e2 : s.vm.findClass RJ5 = some m.cls := findClass_of_methodNamed q3
    rw [h3] at e1
    have hcls : mk.cls = m.cls := Option.some.inj (e1.symm.trans e2)
    have hk : s.vm.classes[mk.cls]? = some kP := by rw [hcls]; exact hkP
    have hsel : selectMethod {} s.vm c mk = .method mk := selectMethod_private hmethM (Cond.privateMethod_at (hts _ h1) mk methM hnamed hmethM)
    simp only [Cond.before, Cond.holds, Cond.value, q1, hfound, hnamed, hsel, hk]
    simp
    exact hni
  · exact hts w hw
