section
-- ===== PART A: goes FIRST, ahead of the names: the tables' words, and 'selects' of the private methods out of them =====
/-- a private method of a class that the tables say can be made, by its rows of tables_1 -/
def lw_okq (q : MethodName × Nat) : Prop := (q.1.cls ≠ "java/lang/invoke/MethodHandle" ∧ q.1.cls ≠ "java/lang/invoke/VarHandle") ∧ Cond.instantiable q.1.cls q.2 ∈ tables_1 ∧ Cond.privateMethod q.1 ∈ tables_1 ∧ Cond.instanceMethod q.1 ∈ tables_1
theorem lw_p0 : lw_okq (⟨"DecisionDiagrams$Input", "addByte", "(I)V"⟩, 2) := ⟨⟨by decide +kernel, by decide +kernel⟩, List.mem_of_getElem? (i := 39) (by decide +kernel), List.mem_of_getElem? (i := 359) (by decide +kernel), List.mem_of_getElem? (i := 360) (by decide +kernel)⟩
theorem lw_p1 : lw_okq (⟨"DecisionDiagrams$Reader", "begin", "(LDecisionDiagrams$Input;)V"⟩, 8) := ⟨⟨by decide +kernel, by decide +kernel⟩, List.mem_of_getElem? (i := 56) (by decide +kernel), List.mem_of_getElem? (i := 368) (by decide +kernel), List.mem_of_getElem? (i := 369) (by decide +kernel)⟩
theorem lw_p2 : lw_okq (⟨"DecisionDiagrams$Reader", "declareVariables", "()V"⟩, 8) := ⟨⟨by decide +kernel, by decide +kernel⟩, List.mem_of_getElem? (i := 56) (by decide +kernel), List.mem_of_getElem? (i := 380) (by decide +kernel), List.mem_of_getElem? (i := 381) (by decide +kernel)⟩
theorem lw_p3 : lw_okq (⟨"DecisionDiagrams$Reader", "failIf", "(ZI)V"⟩, 8) := ⟨⟨by decide +kernel, by decide +kernel⟩, List.mem_of_getElem? (i := 56) (by decide +kernel), List.mem_of_getElem? (i := 391) (by decide +kernel), List.mem_of_getElem? (i := 392) (by decide +kernel)⟩
theorem lw_p4 : lw_okq (⟨"java/lang/Throwable", "fillInStackTrace", "(I)Ljava/lang/Throwable;"⟩, 6) := ⟨⟨by decide +kernel, by decide +kernel⟩, List.mem_of_getElem? (i := 432) (by decide +kernel), List.mem_of_getElem? (i := 430) (by decide +kernel), List.mem_of_getElem? (i := 431) (by decide +kernel)⟩
theorem lw_p5 : lw_okq (⟨"DecisionDiagrams$Reader", "declareVariable", "()V"⟩, 8) := ⟨⟨by decide +kernel, by decide +kernel⟩, List.mem_of_getElem? (i := 56) (by decide +kernel), List.mem_of_getElem? (i := 462) (by decide +kernel), List.mem_of_getElem? (i := 463) (by decide +kernel)⟩
theorem lw_p6 : lw_okq (⟨"DecisionDiagrams$Reader", "statement", "(ZI)V"⟩, 8) := ⟨⟨by decide +kernel, by decide +kernel⟩, List.mem_of_getElem? (i := 56) (by decide +kernel), List.mem_of_getElem? (i := 489) (by decide +kernel), List.mem_of_getElem? (i := 490) (by decide +kernel)⟩
theorem lw_p7 : lw_okq (⟨"DecisionDiagrams$Reader", "statementKind", "()I"⟩, 8) := ⟨⟨by decide +kernel, by decide +kernel⟩, List.mem_of_getElem? (i := 56) (by decide +kernel), List.mem_of_getElem? (i := 493) (by decide +kernel), List.mem_of_getElem? (i := 494) (by decide +kernel)⟩
theorem lw_p8 : lw_okq (⟨"DecisionDiagrams$Reader", "readVariable", "()I"⟩, 8) := ⟨⟨by decide +kernel, by decide +kernel⟩, List.mem_of_getElem? (i := 56) (by decide +kernel), List.mem_of_getElem? (i := 508) (by decide +kernel), List.mem_of_getElem? (i := 509) (by decide +kernel)⟩
theorem lw_p9 : lw_okq (⟨"DecisionDiagrams$Reader", "readNewName", "()J"⟩, 8) := ⟨⟨by decide +kernel, by decide +kernel⟩, List.mem_of_getElem? (i := 56) (by decide +kernel), List.mem_of_getElem? (i := 512) (by decide +kernel), List.mem_of_getElem? (i := 513) (by decide +kernel)⟩
theorem lw_p10 : lw_okq (⟨"DecisionDiagrams$Reader", "formula", "(III)V"⟩, 8) := ⟨⟨by decide +kernel, by decide +kernel⟩, List.mem_of_getElem? (i := 56) (by decide +kernel), List.mem_of_getElem? (i := 520) (by decide +kernel), List.mem_of_getElem? (i := 521) (by decide +kernel)⟩
theorem lw_p11 : lw_okq (⟨"DecisionDiagrams$Reader", "simple", "(II)V"⟩, 8) := ⟨⟨by decide +kernel, by decide +kernel⟩, List.mem_of_getElem? (i := 56) (by decide +kernel), List.mem_of_getElem? (i := 526) (by decide +kernel), List.mem_of_getElem? (i := 527) (by decide +kernel)⟩
theorem lw_p12 : lw_okq (⟨"DecisionDiagrams$Reader", "isPrefix", "()Z"⟩, 8) := ⟨⟨by decide +kernel, by decide +kernel⟩, List.mem_of_getElem? (i := 56) (by decide +kernel), List.mem_of_getElem? (i := 530) (by decide +kernel), List.mem_of_getElem? (i := 531) (by decide +kernel)⟩
theorem lw_p13 : lw_okq (⟨"DecisionDiagrams$Reader", "readPrefix", "()I"⟩, 8) := ⟨⟨by decide +kernel, by decide +kernel⟩, List.mem_of_getElem? (i := 56) (by decide +kernel), List.mem_of_getElem? (i := 540) (by decide +kernel), List.mem_of_getElem? (i := 541) (by decide +kernel)⟩
theorem lw_p14 : lw_okq (⟨"DecisionDiagrams$Reader", "conditional", "(II)V"⟩, 8) := ⟨⟨by decide +kernel, by decide +kernel⟩, List.mem_of_getElem? (i := 56) (by decide +kernel), List.mem_of_getElem? (i := 545) (by decide +kernel), List.mem_of_getElem? (i := 546) (by decide +kernel)⟩
theorem lw_p15 : lw_okq (⟨"DecisionDiagrams$Reader", "openParenthesis", "(I)V"⟩, 8) := ⟨⟨by decide +kernel, by decide +kernel⟩, List.mem_of_getElem? (i := 56) (by decide +kernel), List.mem_of_getElem? (i := 549) (by decide +kernel), List.mem_of_getElem? (i := 550) (by decide +kernel)⟩
def lw_privs_1 : List (MethodName × Nat) := [(⟨"DecisionDiagrams$Input", "addByte", "(I)V"⟩, 2), (⟨"DecisionDiagrams$Reader", "begin", "(LDecisionDiagrams$Input;)V"⟩, 8), (⟨"DecisionDiagrams$Reader", "declareVariables", "()V"⟩, 8), (⟨"DecisionDiagrams$Reader", "failIf", "(ZI)V"⟩, 8), (⟨"java/lang/Throwable", "fillInStackTrace", "(I)Ljava/lang/Throwable;"⟩, 6), (⟨"DecisionDiagrams$Reader", "declareVariable", "()V"⟩, 8), (⟨"DecisionDiagrams$Reader", "statement", "(ZI)V"⟩, 8), (⟨"DecisionDiagrams$Reader", "statementKind", "()I"⟩, 8), (⟨"DecisionDiagrams$Reader", "readVariable", "()I"⟩, 8), (⟨"DecisionDiagrams$Reader", "readNewName", "()J"⟩, 8), (⟨"DecisionDiagrams$Reader", "formula", "(III)V"⟩, 8), (⟨"DecisionDiagrams$Reader", "simple", "(II)V"⟩, 8), (⟨"DecisionDiagrams$Reader", "isPrefix", "()Z"⟩, 8), (⟨"DecisionDiagrams$Reader", "readPrefix", "()I"⟩, 8), (⟨"DecisionDiagrams$Reader", "conditional", "(II)V"⟩, 8), (⟨"DecisionDiagrams$Reader", "openParenthesis", "(I)V"⟩, 8)]
theorem lw_r1 : ∀ q ∈ lw_privs_1, lw_okq q := List.forall_mem_cons.mpr ⟨lw_p0, List.forall_mem_cons.mpr ⟨lw_p1, List.forall_mem_cons.mpr ⟨lw_p2, List.forall_mem_cons.mpr ⟨lw_p3, List.forall_mem_cons.mpr ⟨lw_p4, List.forall_mem_cons.mpr ⟨lw_p5, List.forall_mem_cons.mpr ⟨lw_p6, List.forall_mem_cons.mpr ⟨lw_p7, List.forall_mem_cons.mpr ⟨lw_p8, List.forall_mem_cons.mpr ⟨lw_p9, List.forall_mem_cons.mpr ⟨lw_p10, List.forall_mem_cons.mpr ⟨lw_p11, List.forall_mem_cons.mpr ⟨lw_p12, List.forall_mem_cons.mpr ⟨lw_p13, List.forall_mem_cons.mpr ⟨lw_p14, List.forall_mem_cons.mpr ⟨lw_p15, fun _ h => absurd h List.not_mem_nil⟩⟩⟩⟩⟩⟩⟩⟩⟩⟩⟩⟩⟩⟩⟩⟩
theorem lw_p16 : lw_okq (⟨"DecisionDiagrams$Reader", "expectSign", "(C)V"⟩, 8) := ⟨⟨by decide +kernel, by decide +kernel⟩, List.mem_of_getElem? (i := 56) (by decide +kernel), List.mem_of_getElem? (i := 553) (by decide +kernel), List.mem_of_getElem? (i := 554) (by decide +kernel)⟩
theorem lw_p17 : lw_okq (⟨"DecisionDiagrams$Reader", "single", "(I)V"⟩, 8) := ⟨⟨by decide +kernel, by decide +kernel⟩, List.mem_of_getElem? (i := 56) (by decide +kernel), List.mem_of_getElem? (i := 562) (by decide +kernel), List.mem_of_getElem? (i := 563) (by decide +kernel)⟩
theorem lw_p18 : lw_okq (⟨"DecisionDiagrams$Reader", "applyPrefix", "(II)V"⟩, 8) := ⟨⟨by decide +kernel, by decide +kernel⟩, List.mem_of_getElem? (i := 56) (by decide +kernel), List.mem_of_getElem? (i := 584) (by decide +kernel), List.mem_of_getElem? (i := 585) (by decide +kernel)⟩
theorem lw_p19 : lw_okq (⟨"DecisionDiagrams$Reader", "readNumber", "(I)I"⟩, 8) := ⟨⟨by decide +kernel, by decide +kernel⟩, List.mem_of_getElem? (i := 56) (by decide +kernel), List.mem_of_getElem? (i := 610) (by decide +kernel), List.mem_of_getElem? (i := 611) (by decide +kernel)⟩
theorem lw_p20 : lw_okq (⟨"DecisionDiagrams$Reader", "readFunction", "()I"⟩, 8) := ⟨⟨by decide +kernel, by decide +kernel⟩, List.mem_of_getElem? (i := 56) (by decide +kernel), List.mem_of_getElem? (i := 614) (by decide +kernel), List.mem_of_getElem? (i := 615) (by decide +kernel)⟩
theorem lw_p21 : lw_okq (⟨"DecisionDiagrams$Diagram", "visit", "(I)I"⟩, 13) := ⟨⟨by decide +kernel, by decide +kernel⟩, List.mem_of_getElem? (i := 173) (by decide +kernel), List.mem_of_getElem? (i := 650) (by decide +kernel), List.mem_of_getElem? (i := 651) (by decide +kernel)⟩
theorem lw_p22 : lw_okq (⟨"DecisionDiagrams$Diagram", "setNode", "(IIII)V"⟩, 13) := ⟨⟨by decide +kernel, by decide +kernel⟩, List.mem_of_getElem? (i := 173) (by decide +kernel), List.mem_of_getElem? (i := 663) (by decide +kernel), List.mem_of_getElem? (i := 664) (by decide +kernel)⟩
theorem lw_p23 : lw_okq (⟨"DecisionDiagrams$Sifter", "mostTested", "(I)I"⟩, 2) := ⟨⟨by decide +kernel, by decide +kernel⟩, List.mem_of_getElem? (i := 167) (by decide +kernel), List.mem_of_getElem? (i := 686) (by decide +kernel), List.mem_of_getElem? (i := 687) (by decide +kernel)⟩
theorem lw_p24 : lw_okq (⟨"DecisionDiagrams", "replaceState", "(LDecisionDiagrams$State;)V"⟩, 8) := ⟨⟨by decide +kernel, by decide +kernel⟩, List.mem_of_getElem? (i := 31) (by decide +kernel), List.mem_of_getElem? (i := 736) (by decide +kernel), List.mem_of_getElem? (i := 737) (by decide +kernel)⟩
theorem lw_p25 : lw_okq (⟨"DecisionDiagrams", "needFunction", "(I)V"⟩, 8) := ⟨⟨by decide +kernel, by decide +kernel⟩, List.mem_of_getElem? (i := 31) (by decide +kernel), List.mem_of_getElem? (i := 833) (by decide +kernel), List.mem_of_getElem? (i := 834) (by decide +kernel)⟩
theorem lw_p26 : lw_okq (⟨"DecisionDiagrams", "needOperator", "(I)V"⟩, 8) := ⟨⟨by decide +kernel, by decide +kernel⟩, List.mem_of_getElem? (i := 31) (by decide +kernel), List.mem_of_getElem? (i := 892) (by decide +kernel), List.mem_of_getElem? (i := 893) (by decide +kernel)⟩
theorem lw_p27 : lw_okq (⟨"DecisionDiagrams", "needRoom", "()V"⟩, 8) := ⟨⟨by decide +kernel, by decide +kernel⟩, List.mem_of_getElem? (i := 31) (by decide +kernel), List.mem_of_getElem? (i := 897) (by decide +kernel), List.mem_of_getElem? (i := 898) (by decide +kernel)⟩
theorem lw_p28 : lw_okq (⟨"DecisionDiagrams", "beginChange", "()V"⟩, 8) := ⟨⟨by decide +kernel, by decide +kernel⟩, List.mem_of_getElem? (i := 31) (by decide +kernel), List.mem_of_getElem? (i := 902) (by decide +kernel), List.mem_of_getElem? (i := 903) (by decide +kernel)⟩
theorem lw_p29 : lw_okq (⟨"DecisionDiagrams", "needVariable", "(I)V"⟩, 8) := ⟨⟨by decide +kernel, by decide +kernel⟩, List.mem_of_getElem? (i := 31) (by decide +kernel), List.mem_of_getElem? (i := 927) (by decide +kernel), List.mem_of_getElem? (i := 928) (by decide +kernel)⟩
theorem lw_p30 : lw_okq (⟨"DecisionDiagrams", "drawing", "()LDecisionDiagrams$Diagram;"⟩, 8) := ⟨⟨by decide +kernel, by decide +kernel⟩, List.mem_of_getElem? (i := 31) (by decide +kernel), List.mem_of_getElem? (i := 946) (by decide +kernel), List.mem_of_getElem? (i := 947) (by decide +kernel)⟩
theorem lw_p31 : lw_okq (⟨"DecisionDiagrams$Diagram", "mark", "(III)V"⟩, 13) := ⟨⟨by decide +kernel, by decide +kernel⟩, List.mem_of_getElem? (i := 173) (by decide +kernel), List.mem_of_getElem? (i := 956) (by decide +kernel), List.mem_of_getElem? (i := 957) (by decide +kernel)⟩
def lw_privs_2 : List (MethodName × Nat) := [(⟨"DecisionDiagrams$Reader", "expectSign", "(C)V"⟩, 8), (⟨"DecisionDiagrams$Reader", "single", "(I)V"⟩, 8), (⟨"DecisionDiagrams$Reader", "applyPrefix", "(II)V"⟩, 8), (⟨"DecisionDiagrams$Reader", "readNumber", "(I)I"⟩, 8), (⟨"DecisionDiagrams$Reader", "readFunction", "()I"⟩, 8), (⟨"DecisionDiagrams$Diagram", "visit", "(I)I"⟩, 13), (⟨"DecisionDiagrams$Diagram", "setNode", "(IIII)V"⟩, 13), (⟨"DecisionDiagrams$Sifter", "mostTested", "(I)I"⟩, 2), (⟨"DecisionDiagrams", "replaceState", "(LDecisionDiagrams$State;)V"⟩, 8), (⟨"DecisionDiagrams", "needFunction", "(I)V"⟩, 8), (⟨"DecisionDiagrams", "needOperator", "(I)V"⟩, 8), (⟨"DecisionDiagrams", "needRoom", "()V"⟩, 8), (⟨"DecisionDiagrams", "beginChange", "()V"⟩, 8), (⟨"DecisionDiagrams", "needVariable", "(I)V"⟩, 8), (⟨"DecisionDiagrams", "drawing", "()LDecisionDiagrams$Diagram;"⟩, 8), (⟨"DecisionDiagrams$Diagram", "mark", "(III)V"⟩, 13)]
theorem lw_r2 : ∀ q ∈ lw_privs_2, lw_okq q := List.forall_mem_cons.mpr ⟨lw_p16, List.forall_mem_cons.mpr ⟨lw_p17, List.forall_mem_cons.mpr ⟨lw_p18, List.forall_mem_cons.mpr ⟨lw_p19, List.forall_mem_cons.mpr ⟨lw_p20, List.forall_mem_cons.mpr ⟨lw_p21, List.forall_mem_cons.mpr ⟨lw_p22, List.forall_mem_cons.mpr ⟨lw_p23, List.forall_mem_cons.mpr ⟨lw_p24, List.forall_mem_cons.mpr ⟨lw_p25, List.forall_mem_cons.mpr ⟨lw_p26, List.forall_mem_cons.mpr ⟨lw_p27, List.forall_mem_cons.mpr ⟨lw_p28, List.forall_mem_cons.mpr ⟨lw_p29, List.forall_mem_cons.mpr ⟨lw_p30, List.forall_mem_cons.mpr ⟨lw_p31, fun _ h => absurd h List.not_mem_nil⟩⟩⟩⟩⟩⟩⟩⟩⟩⟩⟩⟩⟩⟩⟩⟩
theorem lw_p32 : lw_okq (⟨"DecisionDiagrams", "needLevel", "(I)V"⟩, 8) := ⟨⟨by decide +kernel, by decide +kernel⟩, List.mem_of_getElem? (i := 31) (by decide +kernel), List.mem_of_getElem? (i := 966) (by decide +kernel), List.mem_of_getElem? (i := 967) (by decide +kernel)⟩
theorem lw_p33 : lw_okq (⟨"DecisionDiagrams", "differentFunctions", "()I"⟩, 8) := ⟨⟨by decide +kernel, by decide +kernel⟩, List.mem_of_getElem? (i := 31) (by decide +kernel), List.mem_of_getElem? (i := 982) (by decide +kernel), List.mem_of_getElem? (i := 983) (by decide +kernel)⟩
theorem lw_p34 : lw_okq (⟨"DecisionDiagrams", "equalsAnEarlierFunction", "(I)Z"⟩, 8) := ⟨⟨by decide +kernel, by decide +kernel⟩, List.mem_of_getElem? (i := 31) (by decide +kernel), List.mem_of_getElem? (i := 986) (by decide +kernel), List.mem_of_getElem? (i := 987) (by decide +kernel)⟩
theorem lw_p35 : lw_okq (⟨"DecisionDiagrams", "constantFunctions", "()I"⟩, 8) := ⟨⟨by decide +kernel, by decide +kernel⟩, List.mem_of_getElem? (i := 31) (by decide +kernel), List.mem_of_getElem? (i := 991) (by decide +kernel), List.mem_of_getElem? (i := 992) (by decide +kernel)⟩
theorem lw_p36 : lw_okq (⟨"DecisionDiagrams", "supportOf", "(I)I"⟩, 8) := ⟨⟨by decide +kernel, by decide +kernel⟩, List.mem_of_getElem? (i := 31) (by decide +kernel), List.mem_of_getElem? (i := 995) (by decide +kernel), List.mem_of_getElem? (i := 996) (by decide +kernel)⟩
theorem lw_p37 : lw_okq (⟨"DecisionDiagrams", "functionsThatDependOn", "(I)I"⟩, 8) := ⟨⟨by decide +kernel, by decide +kernel⟩, List.mem_of_getElem? (i := 31) (by decide +kernel), List.mem_of_getElem? (i := 1011) (by decide +kernel), List.mem_of_getElem? (i := 1012) (by decide +kernel)⟩
def lw_privs_3 : List (MethodName × Nat) := [(⟨"DecisionDiagrams", "needLevel", "(I)V"⟩, 8), (⟨"DecisionDiagrams", "differentFunctions", "()I"⟩, 8), (⟨"DecisionDiagrams", "equalsAnEarlierFunction", "(I)Z"⟩, 8), (⟨"DecisionDiagrams", "constantFunctions", "()I"⟩, 8), (⟨"DecisionDiagrams", "supportOf", "(I)I"⟩, 8), (⟨"DecisionDiagrams", "functionsThatDependOn", "(I)I"⟩, 8)]
theorem lw_r3 : ∀ q ∈ lw_privs_3, lw_okq q := List.forall_mem_cons.mpr ⟨lw_p32, List.forall_mem_cons.mpr ⟨lw_p33, List.forall_mem_cons.mpr ⟨lw_p34, List.forall_mem_cons.mpr ⟨lw_p35, List.forall_mem_cons.mpr ⟨lw_p36, List.forall_mem_cons.mpr ⟨lw_p37, fun _ h => absurd h List.not_mem_nil⟩⟩⟩⟩⟩⟩
def lw_privs : List (MethodName × Nat) := lw_privs_1 ++ (lw_privs_2 ++ (lw_privs_3))
def lw_tbl : List Cond := k2_sels lw_privs ++ tables_1
theorem lw_privs_ok : ∀ q ∈ lw_privs, lw_okq q := by
  show ∀ q ∈ lw_privs_1 ++ (lw_privs_2 ++ (lw_privs_3)), lw_okq q
  exact List.forall_mem_append.mpr ⟨lw_r1, List.forall_mem_append.mpr ⟨lw_r2, lw_r3⟩⟩
-- ===== end of PART A; then your names; then what follows =====
end
section
/-! ===== BEGIN words of one list among another's, by their places ===== -/
theorem goodIn_r {big : List Cond} (ws : List Cond) (ps : List Nat) (hp : ws = ps.filterMap (fun i => big[i]?)) (h : ws.all goodWord = true) : GoodIn big ws := by
  intro w hw
  have h1 := List.all_eq_true.mp h w hw
  rw [hp] at hw
  obtain ⟨i, -, hi⟩ := List.mem_filterMap.mp hw
  have hm : w ∈ big := by first | exact List.mem_of_getElem? hi | exact List.getElem?_mem hi
  exact ⟨hm, good_of_word h1⟩
theorem goodIn_app {big a b : List Cond} (ha : GoodIn big a) (hb : GoodIn big b) : GoodIn big (a ++ b) := fun w h => (List.mem_append.mp h).elim (ha w) (hb w)
theorem goodIn_ca {big a b : List Cond} {c : Cond} (ha : GoodIn big (c :: a)) (hb : GoodIn big b) : GoodIn big (c :: (a ++ b)) := fun w h => (List.mem_cons.mp h).elim (fun e => ha w (List.mem_cons.mpr (Or.inl e))) (fun h => (List.mem_append.mp h).elim (fun h => ha w (List.mem_cons.mpr (Or.inr h))) (hb w))
theorem goodIn_sub {big ws : List Cond} (hm : ∀ w ∈ ws, w ∈ big) (h : ws.all goodWord = true) : GoodIn big ws := fun w hw => ⟨hm w hw, good_of_word (List.all_eq_true.mp h w hw)⟩
/-! ===== END ===== -/
/-! ===== BEGIN exceptions that leave a method, and their catching by the caller (launches without stack traces) ===== -/
section VXA
/-! The laws vx_back, vx_callV, vx_callS, vx_callSW, vx_throw0, vx_throwS follow proofs of the library, with one case more: JvmDerived/Free/Laws.lean (Back.of_free), Shelf42/LK1.lean (callV, callS), Shelf/KitTraced.lean (throwNew0V, throwNewS). -/
/-- where a method has thrown q: the class by its name, the cell, what was written, the world -/
def vx_T (XC : String → State → State → Prop) (st : State) (q : Addr) (t : State) (mc ms : Nat) (free : Addr → Prop) : Prop :=
  ∃ (E : String) (ce : Cell) (L : List Loc), XC E st t ∧ t.heap[q]? = some ce ∧ ce.vm = .none ∧ st.vm.findClass E = some ce.cls ∧ st.WarmedH t.vm ∧ st.sameButNew ({ t with vm := st.vm } : State) L mc ms ∧ ∀ z ∈ L, free z.base
def vx_Q (Qc : Array Value → State → Outcome → State → Prop) (XC : String → State → State → Prop) (mc ms : Nat) (free : Addr → Prop) : Array Value → State → Outcome → State → Prop := fun a st o t =>
  (Qc a st o t ∧ ∃ L, FrameEnd st o t L mc ms ∧ ∀ q ∈ L, free q.base) ∨ ∃ q, o = .threw q ∧ vx_T XC st q t mc ms free
/-- a callee that returns or throws -/
def vx_Met (l : Launch) (y : MethodName) (ws : List Cond) (rm : Room) (Pc : Array Value → State → Prop) (Qc : Array Value → State → Outcome → State → Prop) (XC : String → State → State → Prop) (mc ms : Nat) (free : Addr → Prop) : Prop :=
  MetFree l y (headSpec ws rm) Pc (fun _ _ _ _ _ => True) (vx_Q Qc XC mc ms free)
def vx_Post (XC : String → State → State → Prop) (mc ms : Nat) (free : Addr → Prop) : Pt → Array Value → Addr → Pt → Prop := fun A a q B =>
  ∃ (g : JFrame) (mk : MethodId) (t : State) (L : List Loc) (E : String) (ce : Cell), B.U.heap = t.heap ∧ B.U.vm = t.vm ∧ XC E (A.U.calling g mk a) t ∧ t.heap[q]? = some ce ∧ ce.vm = .none ∧ A.U.vm.findClass E = some ce.cls ∧ B.locs = A.locs ++ L ∧ (∀ z ∈ L, free z.base) ∧ B.cells = A.cells + mc ∧ B.slots = A.slots + ms
def vx_Back (l : Launch) (R : Room) (p : Program) (e : Env) (below : List Frame) (s : State) (sargs : Array Value) (y : MethodName) (len W9 : Nat)
    (Pre : Pt → Array Value → Prop) (Post : Pt → Array Value → Option Value → Pt → Prop) (PostX : Pt → Array Value → Addr → Pt → Prop) : Prop :=
  ∀ (m : MethodId) (meth : Method) (c : Code) (A : Pt) (g : JFrame) (ig : Instr) (mk : MethodId) (a : Array Value),
    Stand p l e R s m sargs below meth c A.U A.locs A.cells A.slots → g.method = m → g.locals.size = c.maxLocals → decode c.code g.pc = .ok (ig, len) →
    2 * g.monitorRoom + (g.stack.map fun v => v.category).sum ≤ W9 → A.U.methodNamed? y = some mk → Pre A a →
    (∃ (v : Option Value) (B : Pt), Stand p l e R s m sargs below meth c B.U B.locs B.cells B.slots ∧ Post A a v B ∧
      Steps p.tables e below (doInvoke e (A.U.setTop g) [] mk a).1 (B.U.setTop { g with pc := g.pc + len, stack := v.toList ++ g.stack })) ∨
    (∃ (q : Addr) (B : Pt), Stand p l e R s m sargs below meth c B.U B.locs B.cells B.slots ∧ PostX A a q B ∧
      Steps p.tables e below (doInvoke e (A.U.setTop g) [] mk a).1 ((B.U.setTop g).pushFrame (.throwing q)))
section Payer
variable {l : Launch} {R : Room} {p : Program} {e : Env} {below : List Frame} {s : State} {sargs : Array Value} {y : MethodName} {len W9 : Nat}
theorem vx_back {ws : List Cond} {rm : Room} {Pc : Array Value → State → Prop} {Qc : Array Value → State → Outcome → State → Prop} {XC : String → State → State → Prop} {mc ms : Nat} {free : Addr → Prop} {bytes : ByteArray} {maxL : Nat} {ret : Option FieldType}
    (hM : vx_Met l y ws rm Pc Qc XC mc ms free) (hblind : FrameBlind Pc) (hrc : rm.cells = mc) (hrs : rm.slots = ms)
    (hframes : rm.frames + 1 ≤ R.frames) (hlocals : W9 + (maxL + 11) + rm.locals ≤ R.locals)
    (hws : ∀ w ∈ ws, ∀ a' U, s.WarmedH U.vm → w.before a' U = true) (hcode : Cond.code y bytes maxL ret ∈ ws) (hinit : ∀ a' U, s.WarmedH U.vm → (Cond.initialized y.cls).before a' U = true) :
    vx_Back l R p e below s sargs y len W9 (PreOf R mc ms Pc) (PostOf Qc mc ms free) (vx_Post XC mc ms free) := by
  intro m meth c A g ig mk a X hg hsize hdg hW hn hp
  have h1 : (headSpec ws rm).pre.before a A.U = true := atoms_intro fun w hw => hws w hw _ _ X.warmed
  have h2 : (Cond.code y bytes maxL ret).before a A.U = true := hws _ hcode _ _ X.warmed
  have h3 : (Cond.initialized y.cls).before a A.U = true := hinit _ _ X.warmed
  have h4 : A.cells + (headSpec ws rm).room.cells ≤ R.cells := by rw [show (headSpec ws rm).room.cells = mc from hrc]; exact hp.1
  have h5 : A.slots + (headSpec ws rm).room.slots ≤ R.slots := by rw [show (headSpec ws rm).room.slots = ms from hrs]; exact hp.2.1
  have hPc : Pc a (A.U.calling g mk a) := hblind _ _ _ _ hp.2.2
  obtain ⟨U, Ls, c0, s0⟩ := A
  dsimp only [Pt.U, Pt.locs, Pt.cells, Pt.slots] at h1 h2 h3 h4 h5 X hn hPc ⊢
  obtain ⟨methY, cY, hmY, hcY, -, hlY, -, -, -, -⟩ := Cond.code_spec hn h2
  obtain ⟨kY, hkY, -⟩ := className_of_methodNamed hn
  have hinitY : kY.init = .initialized := Cond.initialized_spec (findClass_of_methodNamed hn) hkY h3
  have h : At U g.method c below := by rw [hg]; exact X.here
  have hlocals9 : W9 + (maxL + 11) + (headSpec ws rm).room.locals ≤ R.locals := hlocals
  have happ : (headSpec ws rm).appliesLoose y e.platform (U.calling g mk a) = true :=
    Spec.appliesLoose_calling (g := g) h hdg hn hkY hinitY
      (X.room_calling (g := g) (R' := (headSpec ws rm).room) hsize hmY hcY hframes (by rw [hlY]; omega) h4 h5) h1
  obtain ⟨mid, hmid⟩ := h.above
  have hfr : (U.setTop g).frames = (.java g :: mid) ++ below := by rw [State.frames_setTop' g h.top, hmid]; rfl
  obtain ⟨o, s₂, hsteps, -, hend, hq⟩ := Steps.callFree hM p X.admits X.cas X.clock (acts := []) hfr happ hPc trivial
  have hq' : vx_Q Qc XC mc ms free a (U.calling g mk a) o s₂ := hq
  rw [State.frames_setTop' g h.top] at hend
  obtain ⟨g₀, hg0⟩ := Option.isSome_iff_exists.mp h.top
  obtain ⟨r, hr⟩ := State.topJava?_eq_some.mp hg0
  have hr' : (({ U with heap := s₂.heap, slotsUsed := s₂.slotsUsed } : State).setVm s₂.vm).frames = .java g₀ :: r := hr
  rcases hq' with ⟨hqc, L, hfe, hL⟩ | ⟨q, rfl, E, ce, L, hx, hce, hcv, hcl, hW₂, hsm, hL⟩
  · obtain ⟨⟨v, rfl⟩, hW₂, e2, q2, q3, q4, q5, q6⟩ := id hfe
    have e3 : s₂ = ({ (U.calling g mk a).setFrames s₂.frames with heap := s₂.heap, slotsUsed := s₂.slotsUsed } : State).setVm s₂.vm := by
      have : s₂ = ({ s₂ with vm := (U.calling g mk a).vm } : State).setVm s₂.vm := rfl
      rw [e2] at this
      exact this
    obtain ⟨c₂, i₂, len₂, hc₂, hd₂, hf₂⟩ := hend
    have hW' : U.WarmedH s₂.vm := hW₂
    have hcc : c₂ = c := by
      have h1 : s₂.code? g.method = U.code? g.method := by
        rw [State.code?_eq, State.code?_eq, hW'.alike.method?]
      exact Option.some.inj (hc₂.symm.trans (h1.trans h.code))
    subst hcc
    have hlen : len₂ = len := by rw [hdg] at hd₂; cases hd₂; rfl
    subst hlen
    have hs₂ : s₂ = (({ U with heap := s₂.heap, slotsUsed := s₂.slotsUsed } : State).setVm s₂.vm).setTop { g with pc := g.pc + len₂, stack := v.toList ++ g.stack } := by
      refine e3.trans ?_
      rw [hf₂, State.calling_eq h.top, State.setFrames_setFrames, State.setTop_of_frames _ hr', hr]
      rfl
    have hsame : U.sameButNew ({ U with heap := s₂.heap, slotsUsed := s₂.slotsUsed } : State) L mc ms := by
      refine ⟨?_, q2, q3, q4, q5, q6⟩
      obtain ⟨t, ht, -⟩ := State.frames_cons hr
      show ({ U with heap := s₂.heap, slotsUsed := s₂.slotsUsed } : State) = { U.setFrames U.frames with heap := s₂.heap, slotsUsed := s₂.slotsUsed }
      rw [State.setFrames_self ht]
    subst hg
    refine Or.inl ⟨v, ⟨(({ U with heap := s₂.heap, slotsUsed := s₂.slotsUsed } : State).setVm s₂.vm), Ls ++ L, c0 + mc, s0 + ms⟩,
      ⟨X.admits, X.cas, X.clock, X.frames, X.room, X.hears, X.method, X.code, (X.here.setHeapUsed s₂.heap s₂.slotsUsed).setVm hW'.alike, X.tail, State.WarmedH.trans X.warmed hW', X.limits, X.bytes, X.same.trans (hsame.setVm s.vm)⟩,
      ⟨g, mk, s₂, L, rfl, rfl, hqc, rfl, hL, rfl, rfl⟩, ?_⟩
    show Steps p.tables e below _ ((({ U with heap := s₂.heap, slotsUsed := s₂.slotsUsed } : State).setVm s₂.vm).setTop { g with pc := g.pc + len₂, stack := v.toList ++ g.stack })
    rw [← hs₂]
    exact hsteps
  · obtain ⟨e2, q2, q3, q4, q5, q6⟩ := id hsm
    have e3 : s₂ = ({ (U.calling g mk a).setFrames s₂.frames with heap := s₂.heap, slotsUsed := s₂.slotsUsed } : State).setVm s₂.vm := by
      have : s₂ = ({ s₂ with vm := (U.calling g mk a).vm } : State).setVm s₂.vm := rfl
      rw [e2] at this
      exact this
    have hf₂ : s₂.frames = .throwing q :: .java g :: U.frames.tail := hend
    have hW' : U.WarmedH s₂.vm := hW₂
    have hs₂ : s₂ = ((({ U with heap := s₂.heap, slotsUsed := s₂.slotsUsed } : State).setVm s₂.vm).setTop g).pushFrame (.throwing q) := by
      refine e3.trans ?_
      rw [hf₂, State.calling_eq h.top, State.setFrames_setFrames, State.pushFrame, State.frames_setTop _ hr', State.setTop_of_frames _ hr', State.setFrames_setFrames, hr]
      rfl
    have hsame : U.sameButNew ({ U with heap := s₂.heap, slotsUsed := s₂.slotsUsed } : State) L mc ms := by
      refine ⟨?_, q2, q3, q4, q5, q6⟩
      obtain ⟨t, ht, -⟩ := State.frames_cons hr
      show ({ U with heap := s₂.heap, slotsUsed := s₂.slotsUsed } : State) = { U.setFrames U.frames with heap := s₂.heap, slotsUsed := s₂.slotsUsed }
      rw [State.setFrames_self ht]
    subst hg
    refine Or.inr ⟨q, ⟨(({ U with heap := s₂.heap, slotsUsed := s₂.slotsUsed } : State).setVm s₂.vm), Ls ++ L, c0 + mc, s0 + ms⟩,
      ⟨X.admits, X.cas, X.clock, X.frames, X.room, X.hears, X.method, X.code, (X.here.setHeapUsed s₂.heap s₂.slotsUsed).setVm hW'.alike, X.tail, State.WarmedH.trans X.warmed hW', X.limits, X.bytes, X.same.trans (hsame.setVm s.vm)⟩,
      ⟨g, mk, s₂, L, E, ce, rfl, rfl, hx, hce, hcv, hcl, rfl, hL, rfl, rfl⟩, ?_⟩
    show Steps p.tables e below _ (((({ U with heap := s₂.heap, slotsUsed := s₂.slotsUsed } : State).setVm s₂.vm).setTop g).pushFrame (.throwing q))
    rw [← hs₂]
    exact hsteps
end Payer
section Calls
variable {p : Program} {l : Launch} {e : Env} {R : Room} {s : State} {m : MethodId} {args : Array Value} {below : List Frame} {meth : Method} {c : Code} {T : State} {locs : List Loc} {cells slots : Nat}
theorem vx_callV (X : Stand p l e R s m args below meth c T locs cells slots) (hexec : p.tables.exec = Jvm.exec) {own C : String} {index : Nat} {y : MethodName} {bytes : ByteArray} {maxL : Nat} {ret : Option FieldType}
    (hown : s.vm.findClass own = some m.cls) (hlink : (Cond.methodLink own index y).before args s = true) (hinst : (Cond.instanceMethod y).before args s = true) (hsel : (Cond.selects C y y).before args s = true)
    (hcode : (Cond.code y bytes maxL ret).before args s = true) (hy : y.cls ≠ "java/lang/invoke/MethodHandle" ∧ y.cls ≠ "java/lang/invoke/VarHandle")
    {W9 : Nat} {Pre : Pt → Array Value → Prop} {Post : Pt → Array Value → Option Value → Pt → Prop} {PostX : Pt → Array Value → Addr → Pt → Prop} (hK : vx_Back l R p e below s args y 3 W9 Pre Post PostX)
    {b : Addr} {cellB : Cell} (hcell : T.heap[b]? = some cellB) (hobj : cellB.vm.isStatics = false) (hcls : s.vm.findClass C = some cellB.cls)
    {g : JFrame} (hg : g.method = m) (hsize : g.locals.size = c.maxLocals) {argsL rest : List Value} (hlen : ∀ sig, parseMethodDescriptor y.desc = some sig → argsL.length = sig.parameters.length)
    (hstack : g.stack = argsL.reverse ++ .ref b :: rest) (hW : 2 * g.monitorRoom + (rest.map fun v => v.category).sum ≤ W9) (hdg : decode c.code g.pc = .ok (.invokevirtual index, 3))
    (hpre : ∀ vm₁, s.WarmedH vm₁ → Pre ⟨T.setVm vm₁, locs, cells, slots⟩ (Value.ref b :: argsL).toArray) :
    (∃ (v : Option Value) (vm₁ : Vm) (B : Pt), s.WarmedH vm₁ ∧ Stand p l e R s m args below meth c B.U B.locs B.cells B.slots ∧ Post ⟨T.setVm vm₁, locs, cells, slots⟩ (Value.ref b :: argsL).toArray v B ∧
      ∀ target, Steps p.tables e below (B.U.setTop { g with pc := g.pc + 3, stack := v.toList ++ rest }) target → Steps p.tables e below (T.setTop g) target) ∨
    (∃ (q : Addr) (vm₁ : Vm) (B : Pt), s.WarmedH vm₁ ∧ Stand p l e R s m args below meth c B.U B.locs B.cells B.slots ∧ PostX ⟨T.setVm vm₁, locs, cells, slots⟩ (Value.ref b :: argsL).toArray q B ∧
      Steps p.tables e below (T.setTop g) ((B.U.setTop { g with stack := rest }).pushFrame (.throwing q))) := by
  obtain ⟨mk, methM, hnamed, hmethM, hstM, habM⟩ := Cond.instanceMethod_spec hinst
  obtain ⟨methM', cM, hmethM', -, -, -, -, -, -, hsigM⟩ := Cond.code_spec hnamed hcode
  cases hmethM.symm.trans hmethM'
  obtain ⟨c2, r2, m2, q1, q2, q3, q4, kP, hkP, hkPi⟩ := Cond.selects_spec hsel
  cases hcls.symm.trans q1
  cases (State.methodFound?_of_named hnamed hy).symm.trans q2
  cases hnamed.symm.trans q3
  have hselP : selectMethod e.platform s.vm cellB.cls mk = .method mk := by rw [Launch.admits_selectMethod X.admits]; exact q4
  obtain ⟨vm₁, X₁, hstep₁⟩ := X.invokevirtual hexec hown hlink hnamed hmethM hstM hkP hkPi hy (a := b) (cell := cellB) hcell
    (fun z h => by rw [h] at hobj; cases hobj) hselP hmethM habM hkP hkPi (g := g) hg (argsL := argsL) (rest := rest) (hlen _ hsigM) hstack hdg
  rcases hK m meth c ⟨T.setVm vm₁, locs, cells, slots⟩ { g with stack := rest } (.invokevirtual index) mk (Value.ref b :: argsL).toArray X₁ hg hsize hdg hW (X₁.named hnamed) (hpre vm₁ X₁.warmed) with ⟨v, B, X', hpost, hsteps⟩ | ⟨q, B, X', hpost, hsteps⟩
  · exact Or.inl ⟨v, vm₁, B, X₁.warmed, X', hpost, fun target h => hstep₁ _ fun acts => by rw [doInvoke_state]; exact hsteps.trans h⟩
  · exact Or.inr ⟨q, vm₁, B, X₁.warmed, X', hpost, hstep₁ _ fun acts => by rw [doInvoke_state]; exact hsteps⟩
theorem vx_callS (X : Stand p l e R s m args below meth c T locs cells slots) (hexec : p.tables.exec = Jvm.exec) {own : String} {index : Nat} {y : MethodName} {bytes : ByteArray} {maxL : Nat} {ret : Option FieldType}
    (hown : s.vm.findClass own = some m.cls) (hlink : (Cond.methodLink own index y).before args s = true) (hstat : (Cond.static y).before args s = true) (hinit : (Cond.initialized y.cls).before args s = true)
    (hcode : (Cond.code y bytes maxL ret).before args s = true) (hy : y.cls ≠ "java/lang/invoke/MethodHandle" ∧ y.cls ≠ "java/lang/invoke/VarHandle")
    {W9 : Nat} {Pre : Pt → Array Value → Prop} {Post : Pt → Array Value → Option Value → Pt → Prop} {PostX : Pt → Array Value → Addr → Pt → Prop} (hK : vx_Back l R p e below s args y 3 W9 Pre Post PostX)
    {g : JFrame} (hg : g.method = m) (hsize : g.locals.size = c.maxLocals) {argsL rest : List Value} (hlen : ∀ sig, parseMethodDescriptor y.desc = some sig → argsL.length = sig.parameters.length)
    (hstack : g.stack = argsL.reverse ++ rest) (hW : 2 * g.monitorRoom + (rest.map fun v => v.category).sum ≤ W9) (hdg : decode c.code g.pc = .ok (.invokestatic index, 3))
    (hpre : ∀ vm₁, s.WarmedH vm₁ → Pre ⟨T.setVm vm₁, locs, cells, slots⟩ argsL.toArray) :
    (∃ (v : Option Value) (vm₁ : Vm) (B : Pt), s.WarmedH vm₁ ∧ Stand p l e R s m args below meth c B.U B.locs B.cells B.slots ∧ Post ⟨T.setVm vm₁, locs, cells, slots⟩ argsL.toArray v B ∧
      ∀ target, Steps p.tables e below (B.U.setTop { g with pc := g.pc + 3, stack := v.toList ++ rest }) target → Steps p.tables e below (T.setTop g) target) ∨
    (∃ (q : Addr) (vm₁ : Vm) (B : Pt), s.WarmedH vm₁ ∧ Stand p l e R s m args below meth c B.U B.locs B.cells B.slots ∧ PostX ⟨T.setVm vm₁, locs, cells, slots⟩ argsL.toArray q B ∧
      Steps p.tables e below (T.setTop g) ((B.U.setTop { g with stack := rest }).pushFrame (.throwing q))) := by
  obtain ⟨mk, hnamed⟩ := Cond.code_named hcode
  obtain ⟨methM, cM, hmethM, -, -, -, -, -, -, hsigM⟩ := Cond.code_spec hnamed hcode
  have hstatic : methM.isStatic = true := Cond.static_spec hnamed hmethM hstat
  obtain ⟨kP, hkP, -⟩ := className_of_methodNamed hnamed
  have hinitP : kP.init = .initialized := Cond.initialized_spec (findClass_of_methodNamed hnamed) hkP hinit
  obtain ⟨vm₁, X₁, hstep₁⟩ := X.invokestatic hexec hown hlink hnamed hmethM hstatic hkP hinitP hy (g := g) hg (argsL := argsL) (rest := rest) (hlen _ hsigM) hstack hdg
  rcases hK m meth c ⟨T.setVm vm₁, locs, cells, slots⟩ { g with stack := rest } (.invokestatic index) mk argsL.toArray X₁ hg hsize hdg hW (X₁.named hnamed) (hpre vm₁ X₁.warmed) with ⟨v, B, X', hpost, hsteps⟩ | ⟨q, B, X', hpost, hsteps⟩
  · exact Or.inl ⟨v, vm₁, B, X₁.warmed, X', hpost, fun target h => hstep₁ _ fun acts => by rw [doInvoke_state]; exact hsteps.trans h⟩
  · exact Or.inr ⟨q, vm₁, B, X₁.warmed, X', hpost, hstep₁ _ fun acts => by rw [doInvoke_state]; exact hsteps⟩
end Calls
theorem vx_cls {s : State} {T : State} {vm₁ : Vm} {E : String} {k : ClassId} (hW : s.WarmedH vm₁) (h : (T.setVm vm₁).vm.findClass E = some k) : s.vm.findClass E = some k := by
  have h1 : vm₁.findClass E = some k := h
  rw [hW.alike.findClass] at h1
  exact h1
/-- the method's frame g, with q thrown over it -/
def vx_W (p : Program) (l : Launch) (e : Env) (R : Room) (s : State) (m : MethodId) (args : Array Value) (below : List Frame) (meth : Method) (c : Code) (H : Heap) (locs : List Loc) (cells slots : Nat) (Q : State → Prop) (g : JFrame) (q : Addr) : Prop :=
  ∀ T : State, T.heap = H → Stand p l e R s m args below meth c T locs cells slots → ∃ t, Steps p.tables e below ((T.setTop g).pushFrame (.throwing q)) t ∧ Q t
def vx_Run (p : Program) (l : Launch) (e : Env) (R : Room) (s : State) (m : MethodId) (args : Array Value) (below : List Frame) (meth : Method) (c : Code) (H : Heap) (locs : List Loc) (cells slots mc ms : Nat) (g : JFrame) (rest : List Value) (Qa : State → Outcome → State → Prop) (XC : String → State → State → Prop) (free : Addr → Prop) : Prop :=
  ∀ T : State, T.heap = H → Stand p l e R s m args below meth c T locs cells slots →
    (∃ (v : Option Value) (st₀ t T' : State) (L : List Loc), st₀.heap = H ∧ Stand p l e R s m args below meth c T' (locs ++ L) (cells + mc) (slots + ms) ∧ (∀ q ∈ L, free q.base) ∧ T'.heap = t.heap ∧ T'.vm = t.vm ∧ Qa st₀ (.returned v) t ∧
      Goes p e below T g T' { g with pc := g.pc + 3, stack := v.toList ++ rest }) ∨
    (∃ (q : Addr) (st₀ t T' : State) (L : List Loc) (E : String) (ce : Cell), st₀.heap = H ∧ Stand p l e R s m args below meth c T' (locs ++ L) (cells + mc) (slots + ms) ∧ (∀ z ∈ L, free z.base) ∧ T'.heap = t.heap ∧ T'.vm = t.vm ∧ XC E st₀ t ∧ t.heap[q]? = some ce ∧ ce.vm = .none ∧ s.vm.findClass E = some ce.cls ∧
      Steps p.tables e below (T.setTop g) ((T'.setTop { g with stack := rest }).pushFrame (.throwing q)))
def vx_X {S : Type} (px : S → Prop) (B : String → S → State → Prop) (A : Nat → Prop) : String → State → State → Prop := fun E st t => ∃ u : S, px u ∧ B E u t ∧ va_F A st t
section Runs
variable {p : Program} {l : Launch} {e : Env} {R : Room} {s : State} {m : MethodId} {args : Array Value} {below : List Frame} {meth : Method} {c : Code} {H : Heap} {locs : List Loc} {cells slots : Nat}
variable {y : MethodName} {bytes cc : ByteArray} {maxL nL mc ms n index : Nat} {ret : Option FieldType} {ws : List Cond} {rm : Room} {Pc : Array Value → State → Prop} {Qc : Array Value → State → Outcome → State → Prop} {XC : String → State → State → Prop} {free : Addr → Prop} {Ts : List Cond} {own C : String} {b : Addr} {As rest : List Value} {g : JFrame}
theorem vx_callBack (cb : CallB R s args own index y bytes maxL ret ws rm mc ms n) (hM : vx_Met l y ws rm Pc Qc XC mc ms free) (hbl : FrameBlind Pc) : vx_Back l R p e below s args y 3 8 (PreOf R mc ms Pc) (PostOf Qc mc ms free) (vx_Post XC mc ms free) := by
  obtain ⟨hrc, hrs, hfr, hlo, hws, hcw, -, hini, -⟩ := cb
  exact vx_back (bytes := bytes) (maxL := maxL) (ret := ret) hM hbl hrc hrs hfr hlo hws hcw (fun a' U hW => word_at hW (Or.inl (by first | rfl | simp [Cond.onTables, Cond.keeps, Cond.steady])) hini)
theorem vx_runV (S : CallFix p m c cc nL s args Ts own) (hM : vx_Met l y ws rm Pc Qc XC mc ms free) (cw : CallW R s args own C index y bytes maxL ret ws rm mc ms n) (hp : PreV s H C b Pc As)
    (hg : g.method = m) (hn : As.length = n) (hsize : g.locals.size = nL) (hstack : g.stack = As.reverse ++ .ref b :: rest) (hW : 2 * g.monitorRoom + (rest.map fun v => v.category).sum ≤ 8) (hdg : decode cc g.pc = .ok (.invokevirtual index, 3)) (hf : cells + mc ≤ R.cells ∧ slots + ms ≤ R.slots) :
    vx_Run p l e R s m args below meth c H locs cells slots mc ms g rest (Qc (Value.ref b :: As).toArray) XC free := by
  have hK : vx_Back l R p e below s args y 3 8 (PreOf R mc ms Pc) (PostOf Qc mc ms free) (vx_Post XC mc ms free) := vx_callBack cw.1 hM hp.1
  obtain ⟨⟨-, -, -, -, -, -, hcode, -, hy, hlen, hl⟩, hin, hse⟩ := cw
  obtain ⟨hx, hb, hml, ho, -⟩ := S
  obtain ⟨-, ⟨cellB, hcB, hoB, hclB⟩, hPc⟩ := hp
  intro T hT X
  rcases vx_callV X hx (C := C) (bytes := bytes) (maxL := maxL) (ret := ret) ho hl hin hse hcode hy hK (by rw [hT]; exact hcB) hoB hclB hg (hsize.trans hml.symm) (argsL := As) (rest := rest) (fun sig h => hn.trans (hlen sig h)) hstack hW (by rw [hb]; exact hdg)
    (fun vm₁ hW₁ => ⟨hf.1, hf.2, hPc (T.setVm vm₁) hT hW₁⟩) with ⟨v, vm₁, ⟨U', l2, c2, s2⟩, hW₁, X', ⟨g', mk, t, L, e1, e2, hq, h1, hL, h2, h3⟩, st⟩ | ⟨q, vm₁, ⟨U', l2, c2, s2⟩, hW₁, X', ⟨g', mk, t, L, E, ce, e1, e2, hq, hce, hcv, hcl, h1, hL, h2, h3⟩, st⟩
  · dsimp only [Pt.U, Pt.locs, Pt.cells, Pt.slots] at X' e1 e2 h1 h2 h3 st
    subst h1; subst h2; subst h3
    exact Or.inl ⟨v, (T.setVm vm₁).calling g' mk (Value.ref b :: As).toArray, t, U', L, hT, X', hL, e1, e2, hq, st⟩
  · dsimp only [Pt.U, Pt.locs, Pt.cells, Pt.slots] at X' e1 e2 h1 h2 h3 st hcl
    subst h1; subst h2; subst h3
    exact Or.inr ⟨q, (T.setVm vm₁).calling g' mk (Value.ref b :: As).toArray, t, U', L, E, ce, hT, X', hL, e1, e2, hq, hce, hcv, vx_cls hW₁ hcl, st⟩
theorem vx_runS (S : CallFix p m c cc nL s args Ts own) (hM : vx_Met l y ws rm Pc Qc XC mc ms free) (cw : CallB R s args own index y bytes maxL ret ws rm mc ms n ∧ (Cond.static y).before args s = true) (hp : PreS s H Pc As)
    (hg : g.method = m) (hn : As.length = n) (hsize : g.locals.size = nL) (hstack : g.stack = As.reverse ++ rest) (hW : 2 * g.monitorRoom + (rest.map fun v => v.category).sum ≤ 8) (hdg : decode cc g.pc = .ok (.invokestatic index, 3)) (hf : cells + mc ≤ R.cells ∧ slots + ms ≤ R.slots) :
    vx_Run p l e R s m args below meth c H locs cells slots mc ms g rest (Qc As.toArray) XC free := by
  have hK : vx_Back l R p e below s args y 3 8 (PreOf R mc ms Pc) (PostOf Qc mc ms free) (vx_Post XC mc ms free) := vx_callBack cw.1 hM hp.1
  obtain ⟨⟨-, -, -, -, -, -, hcode, hini, hy, hlen, hl⟩, hstt⟩ := cw
  obtain ⟨hx, hb, hml, ho, -⟩ := S
  intro T hT X
  rcases vx_callS X hx (bytes := bytes) (maxL := maxL) (ret := ret) ho hl hstt hini hcode hy hK hg (hsize.trans hml.symm) (argsL := As) (rest := rest) (fun sig h => hn.trans (hlen sig h)) hstack hW (by rw [hb]; exact hdg)
    (fun vm₁ hW₁ => ⟨hf.1, hf.2, hp.2 (T.setVm vm₁) hT hW₁⟩) with ⟨v, vm₁, ⟨U', l2, c2, s2⟩, hW₁, X', ⟨g', mk, t, L, e1, e2, hq, h1, hL, h2, h3⟩, st⟩ | ⟨q, vm₁, ⟨U', l2, c2, s2⟩, hW₁, X', ⟨g', mk, t, L, E, ce, e1, e2, hq, hce, hcv, hcl, h1, hL, h2, h3⟩, st⟩
  · dsimp only [Pt.U, Pt.locs, Pt.cells, Pt.slots] at X' e1 e2 h1 h2 h3 st
    subst h1; subst h2; subst h3
    exact Or.inl ⟨v, (T.setVm vm₁).calling g' mk As.toArray, t, U', L, hT, X', hL, e1, e2, hq, st⟩
  · dsimp only [Pt.U, Pt.locs, Pt.cells, Pt.slots] at X' e1 e2 h1 h2 h3 st hcl
    subst h1; subst h2; subst h3
    exact Or.inr ⟨q, (T.setVm vm₁).calling g' mk As.toArray, t, U', L, E, ce, hT, X', hL, e1, e2, hq, hce, hcv, vx_cls hW₁ hcl, st⟩
end Runs
section Rows
variable {p : Program} {l : Launch} {e : Env} {R : Room} {s : State} {m : MethodId} {args : Array Value} {below : List Frame} {meth : Method} {c : Code} {H : Heap} {locs : List Loc} {cells slots : Nat} {Q : State → Prop}
variable {mc ms : Nat} {free : Addr → Prop} {A0 A1 : Nat → Prop} {H0 : Heap} {a : Array Value} {pc : Nat} {ls : Array Slot} {st0 rest : List Value}
theorem vx_keep {st₀ t T' : State} {L : List Loc} (h0 : st₀.heap = H) (e1 : T'.heap = t.heap) (hS : va_S A0 H0 H locs) (hA : ∀ q, q < H.size → A1 q → A0 q) (hf : ∀ q, free q → A0 q) (hL : ∀ q ∈ L, free q.base) (hF : va_F A1 st₀ t) :
    H.size ≤ T'.heap.size ∧ (∀ q : Nat, q < H.size → ¬ A1 q → T'.heap[q]? = H[q]?) ∧ va_S A0 H0 T'.heap (locs ++ L) := by
  obtain ⟨hz, hk⟩ := hF
  rw [h0] at hz hk
  exact ⟨by rw [e1]; exact hz, fun q h1 h2 => by rw [e1]; exact hk q h1 h2,
    ⟨Nat.le_trans hS.1 (by rw [e1]; exact hz), fun q h1 h2 => by rw [e1, hk q (Nat.lt_of_lt_of_le h1 hS.1) (fun z => h2 (hA q (Nat.lt_of_lt_of_le h1 hS.1) z))]; exact hS.2.1 q h1 h2, fun q hq => by
      rcases List.mem_append.mp hq with h | h
      · exact hS.2.2 q h
      · exact hf _ (hL q h)⟩⟩
theorem vx_calli {S SX : Type} {post : Int32 → S → Prop} {px : SX → Prop} {B : S → State → Prop} {BX : String → SX → State → Prop} {AX : Nat → Prop} (hr : vx_Run p l e R s m args below meth c H locs cells slots mc ms (F0 m pc ls st0) rest (va_Qi post B A1 a) (vx_X px BX AX) free) (hS : va_S A0 H0 H locs) (hA : ∀ q, q < H.size → A1 q → A0 q) (hf : ∀ q, free q → A0 q) (hAX : ∀ q, q < H.size → AX q → A0 q)
    (kx : ∀ (E : String) (ce : Cell) (q9 : Addr) (u : SX) (t : State) (H1 : Heap) (locs1 : List Loc), t.heap = H1 → s.vm.Alike t.vm → px u → BX E u t → H.size ≤ H1.size → (∀ q : Nat, q < H.size → ¬ AX q → H1[q]? = H[q]?) → va_S A0 H0 H1 locs1 → H1[q9]? = some ce → ce.vm = .none → s.vm.findClass E = some ce.cls → vx_W p l e R s m args below meth c H1 locs1 (cells + mc) (slots + ms) Q (F0 m pc ls rest) q9)
    (kk : ∀ (r : Int32) (u : S) (t : State) (H1 : Heap) (locs1 : List Loc), t.heap = H1 → s.vm.Alike t.vm → post r u → B u t → H.size ≤ H1.size → (∀ q : Nat, q < H.size → ¬ A1 q → H1[q]? = H[q]?) → va_S A0 H0 H1 locs1 → W p l e R s m args below meth c H1 locs1 (cells + mc) (slots + ms) Q (F0 m (pc + 3) ls (.int r :: rest))) : W p l e R s m args below meth c H locs cells slots Q (F0 m pc ls st0) := by
  intro T hT X
  rcases hr T hT X with ⟨v, st₀, t, T', L, h0, X', hL, e1, e2, ⟨⟨r, u, hv, hp, hb⟩, hF⟩, st⟩ | ⟨q, st₀, t, T', L, E, ce, h0, X', hL, e1, e2, ⟨u, hp, hb, hF⟩, hce, hcv, hcl, st⟩
  · cases hv
    obtain ⟨k1, k2, k3⟩ := vx_keep h0 e1 hS hA hf hL hF
    obtain ⟨t2, a1, b1⟩ := kk r u t T'.heap (locs ++ L) e1.symm (by rw [← e2]; exact X'.warmed.alike) hp hb k1 k2 k3 T' rfl X'
    exact ⟨t2, st t2 a1, b1⟩
  · obtain ⟨k1, k2, k3⟩ := vx_keep h0 e1 hS hAX hf hL hF
    obtain ⟨t2, a1, b1⟩ := kx E ce q u t T'.heap (locs ++ L) e1.symm (by rw [← e2]; exact X'.warmed.alike) hp hb k1 k2 k3 (by rw [e1]; exact hce) hcv hcl T' rfl X'
    exact ⟨t2, st.trans a1, b1⟩
theorem vx_calll {S SX : Type} {post : Int64 → S → Prop} {px : SX → Prop} {B : S → State → Prop} {BX : String → SX → State → Prop} {AX : Nat → Prop} (hr : vx_Run p l e R s m args below meth c H locs cells slots mc ms (F0 m pc ls st0) rest (va_Ql post B A1 a) (vx_X px BX AX) free) (hS : va_S A0 H0 H locs) (hA : ∀ q, q < H.size → A1 q → A0 q) (hf : ∀ q, free q → A0 q) (hAX : ∀ q, q < H.size → AX q → A0 q)
    (kx : ∀ (E : String) (ce : Cell) (q9 : Addr) (u : SX) (t : State) (H1 : Heap) (locs1 : List Loc), t.heap = H1 → s.vm.Alike t.vm → px u → BX E u t → H.size ≤ H1.size → (∀ q : Nat, q < H.size → ¬ AX q → H1[q]? = H[q]?) → va_S A0 H0 H1 locs1 → H1[q9]? = some ce → ce.vm = .none → s.vm.findClass E = some ce.cls → vx_W p l e R s m args below meth c H1 locs1 (cells + mc) (slots + ms) Q (F0 m pc ls rest) q9)
    (kk : ∀ (r : Int64) (u : S) (t : State) (H1 : Heap) (locs1 : List Loc), t.heap = H1 → s.vm.Alike t.vm → post r u → B u t → H.size ≤ H1.size → (∀ q : Nat, q < H.size → ¬ A1 q → H1[q]? = H[q]?) → va_S A0 H0 H1 locs1 → W p l e R s m args below meth c H1 locs1 (cells + mc) (slots + ms) Q (F0 m (pc + 3) ls (.long r :: rest))) : W p l e R s m args below meth c H locs cells slots Q (F0 m pc ls st0) := by
  intro T hT X
  rcases hr T hT X with ⟨v, st₀, t, T', L, h0, X', hL, e1, e2, ⟨⟨r, u, hv, hp, hb⟩, hF⟩, st⟩ | ⟨q, st₀, t, T', L, E, ce, h0, X', hL, e1, e2, ⟨u, hp, hb, hF⟩, hce, hcv, hcl, st⟩
  · cases hv
    obtain ⟨k1, k2, k3⟩ := vx_keep h0 e1 hS hA hf hL hF
    obtain ⟨t2, a1, b1⟩ := kk r u t T'.heap (locs ++ L) e1.symm (by rw [← e2]; exact X'.warmed.alike) hp hb k1 k2 k3 T' rfl X'
    exact ⟨t2, st t2 a1, b1⟩
  · obtain ⟨k1, k2, k3⟩ := vx_keep h0 e1 hS hAX hf hL hF
    obtain ⟨t2, a1, b1⟩ := kx E ce q u t T'.heap (locs ++ L) e1.symm (by rw [← e2]; exact X'.warmed.alike) hp hb k1 k2 k3 (by rw [e1]; exact hce) hcv hcl T' rfl X'
    exact ⟨t2, st.trans a1, b1⟩
theorem vx_callf {S SX : Type} {post : UInt32 → S → Prop} {px : SX → Prop} {B : S → State → Prop} {BX : String → SX → State → Prop} {AX : Nat → Prop} (hr : vx_Run p l e R s m args below meth c H locs cells slots mc ms (F0 m pc ls st0) rest (va_Qf post B A1 a) (vx_X px BX AX) free) (hS : va_S A0 H0 H locs) (hA : ∀ q, q < H.size → A1 q → A0 q) (hf : ∀ q, free q → A0 q) (hAX : ∀ q, q < H.size → AX q → A0 q)
    (kx : ∀ (E : String) (ce : Cell) (q9 : Addr) (u : SX) (t : State) (H1 : Heap) (locs1 : List Loc), t.heap = H1 → s.vm.Alike t.vm → px u → BX E u t → H.size ≤ H1.size → (∀ q : Nat, q < H.size → ¬ AX q → H1[q]? = H[q]?) → va_S A0 H0 H1 locs1 → H1[q9]? = some ce → ce.vm = .none → s.vm.findClass E = some ce.cls → vx_W p l e R s m args below meth c H1 locs1 (cells + mc) (slots + ms) Q (F0 m pc ls rest) q9)
    (kk : ∀ (r : UInt32) (u : S) (t : State) (H1 : Heap) (locs1 : List Loc), t.heap = H1 → s.vm.Alike t.vm → post r u → B u t → H.size ≤ H1.size → (∀ q : Nat, q < H.size → ¬ A1 q → H1[q]? = H[q]?) → va_S A0 H0 H1 locs1 → W p l e R s m args below meth c H1 locs1 (cells + mc) (slots + ms) Q (F0 m (pc + 3) ls (.float r :: rest))) : W p l e R s m args below meth c H locs cells slots Q (F0 m pc ls st0) := by
  intro T hT X
  rcases hr T hT X with ⟨v, st₀, t, T', L, h0, X', hL, e1, e2, ⟨⟨r, u, hv, hp, hb⟩, hF⟩, st⟩ | ⟨q, st₀, t, T', L, E, ce, h0, X', hL, e1, e2, ⟨u, hp, hb, hF⟩, hce, hcv, hcl, st⟩
  · cases hv
    obtain ⟨k1, k2, k3⟩ := vx_keep h0 e1 hS hA hf hL hF
    obtain ⟨t2, a1, b1⟩ := kk r u t T'.heap (locs ++ L) e1.symm (by rw [← e2]; exact X'.warmed.alike) hp hb k1 k2 k3 T' rfl X'
    exact ⟨t2, st t2 a1, b1⟩
  · obtain ⟨k1, k2, k3⟩ := vx_keep h0 e1 hS hAX hf hL hF
    obtain ⟨t2, a1, b1⟩ := kx E ce q u t T'.heap (locs ++ L) e1.symm (by rw [← e2]; exact X'.warmed.alike) hp hb k1 k2 k3 (by rw [e1]; exact hce) hcv hcl T' rfl X'
    exact ⟨t2, st.trans a1, b1⟩
theorem vx_calld {S SX : Type} {post : UInt64 → S → Prop} {px : SX → Prop} {B : S → State → Prop} {BX : String → SX → State → Prop} {AX : Nat → Prop} (hr : vx_Run p l e R s m args below meth c H locs cells slots mc ms (F0 m pc ls st0) rest (va_Qd post B A1 a) (vx_X px BX AX) free) (hS : va_S A0 H0 H locs) (hA : ∀ q, q < H.size → A1 q → A0 q) (hf : ∀ q, free q → A0 q) (hAX : ∀ q, q < H.size → AX q → A0 q)
    (kx : ∀ (E : String) (ce : Cell) (q9 : Addr) (u : SX) (t : State) (H1 : Heap) (locs1 : List Loc), t.heap = H1 → s.vm.Alike t.vm → px u → BX E u t → H.size ≤ H1.size → (∀ q : Nat, q < H.size → ¬ AX q → H1[q]? = H[q]?) → va_S A0 H0 H1 locs1 → H1[q9]? = some ce → ce.vm = .none → s.vm.findClass E = some ce.cls → vx_W p l e R s m args below meth c H1 locs1 (cells + mc) (slots + ms) Q (F0 m pc ls rest) q9)
    (kk : ∀ (r : UInt64) (u : S) (t : State) (H1 : Heap) (locs1 : List Loc), t.heap = H1 → s.vm.Alike t.vm → post r u → B u t → H.size ≤ H1.size → (∀ q : Nat, q < H.size → ¬ A1 q → H1[q]? = H[q]?) → va_S A0 H0 H1 locs1 → W p l e R s m args below meth c H1 locs1 (cells + mc) (slots + ms) Q (F0 m (pc + 3) ls (.double r :: rest))) : W p l e R s m args below meth c H locs cells slots Q (F0 m pc ls st0) := by
  intro T hT X
  rcases hr T hT X with ⟨v, st₀, t, T', L, h0, X', hL, e1, e2, ⟨⟨r, u, hv, hp, hb⟩, hF⟩, st⟩ | ⟨q, st₀, t, T', L, E, ce, h0, X', hL, e1, e2, ⟨u, hp, hb, hF⟩, hce, hcv, hcl, st⟩
  · cases hv
    obtain ⟨k1, k2, k3⟩ := vx_keep h0 e1 hS hA hf hL hF
    obtain ⟨t2, a1, b1⟩ := kk r u t T'.heap (locs ++ L) e1.symm (by rw [← e2]; exact X'.warmed.alike) hp hb k1 k2 k3 T' rfl X'
    exact ⟨t2, st t2 a1, b1⟩
  · obtain ⟨k1, k2, k3⟩ := vx_keep h0 e1 hS hAX hf hL hF
    obtain ⟨t2, a1, b1⟩ := kx E ce q u t T'.heap (locs ++ L) e1.symm (by rw [← e2]; exact X'.warmed.alike) hp hb k1 k2 k3 (by rw [e1]; exact hce) hcv hcl T' rfl X'
    exact ⟨t2, st.trans a1, b1⟩
theorem vx_callv {S SX : Type} {post : S → Prop} {px : SX → Prop} {B : S → State → Prop} {BX : String → SX → State → Prop} {AX : Nat → Prop} (hr : vx_Run p l e R s m args below meth c H locs cells slots mc ms (F0 m pc ls st0) rest (va_Qv post B A1 a) (vx_X px BX AX) free) (hS : va_S A0 H0 H locs) (hA : ∀ q, q < H.size → A1 q → A0 q) (hf : ∀ q, free q → A0 q) (hAX : ∀ q, q < H.size → AX q → A0 q)
    (kx : ∀ (E : String) (ce : Cell) (q9 : Addr) (u : SX) (t : State) (H1 : Heap) (locs1 : List Loc), t.heap = H1 → s.vm.Alike t.vm → px u → BX E u t → H.size ≤ H1.size → (∀ q : Nat, q < H.size → ¬ AX q → H1[q]? = H[q]?) → va_S A0 H0 H1 locs1 → H1[q9]? = some ce → ce.vm = .none → s.vm.findClass E = some ce.cls → vx_W p l e R s m args below meth c H1 locs1 (cells + mc) (slots + ms) Q (F0 m pc ls rest) q9)
    (kk : ∀ (u : S) (t : State) (H1 : Heap) (locs1 : List Loc), t.heap = H1 → s.vm.Alike t.vm → post u → B u t → H.size ≤ H1.size → (∀ q : Nat, q < H.size → ¬ A1 q → H1[q]? = H[q]?) → va_S A0 H0 H1 locs1 → W p l e R s m args below meth c H1 locs1 (cells + mc) (slots + ms) Q (F0 m (pc + 3) ls (rest))) : W p l e R s m args below meth c H locs cells slots Q (F0 m pc ls st0) := by
  intro T hT X
  rcases hr T hT X with ⟨v, st₀, t, T', L, h0, X', hL, e1, e2, ⟨⟨u, hv, hp, hb⟩, hF⟩, st⟩ | ⟨q, st₀, t, T', L, E, ce, h0, X', hL, e1, e2, ⟨u, hp, hb, hF⟩, hce, hcv, hcl, st⟩
  · cases hv
    obtain ⟨k1, k2, k3⟩ := vx_keep h0 e1 hS hA hf hL hF
    obtain ⟨t2, a1, b1⟩ := kk u t T'.heap (locs ++ L) e1.symm (by rw [← e2]; exact X'.warmed.alike) hp hb k1 k2 k3 T' rfl X'
    exact ⟨t2, st t2 a1, b1⟩
  · obtain ⟨k1, k2, k3⟩ := vx_keep h0 e1 hS hAX hf hL hF
    obtain ⟨t2, a1, b1⟩ := kx E ce q u t T'.heap (locs ++ L) e1.symm (by rw [← e2]; exact X'.warmed.alike) hp hb k1 k2 k3 (by rw [e1]; exact hce) hcv hcl T' rfl X'
    exact ⟨t2, st.trans a1, b1⟩
/-- caught by the row x of this method's table; the rows ahead don't take it -/
theorem vx_catch {own name : String} {E : String} {ce : Cell} {q : Addr} (hown : s.vm.findClass own = some m.cls) (pre : List ExceptionTableEntry) (x : ExceptionTableEntry) (suf : List ExceptionTableEntry) (hsplit : c.exceptionTable.toList = pre ++ x :: suf)
    (hpass : ∀ z ∈ pre, covers z pc = false ∨ (z.catchType ≠ 0 ∧ ∃ nm : String, (Cond.classLink own z.catchType nm).before args s = true ∧ va_Nc E nm s)) (hx : covers x pc = true) (h0 : x.catchType ≠ 0)
    (hlink : (Cond.classLink own x.catchType name).before args s = true) (hcast : (Cond.castable E name).before args s = true) (hcell : H[q]? = some ce) (hv : ce.vm = .none) (hcl : s.vm.findClass E = some ce.cls)
    (kk : W p l e R s m args below meth c H locs cells slots Q (F0 m x.handlerPc ls [.ref q])) : vx_W p l e R s m args below meth c H locs cells slots Q (F0 m pc ls rest) q := by
  intro T hT X
  have hpl : e.platform.magicAccessors = ({} : Platform).magicAccessors := by rw [X.admits.platform]
  obtain ⟨c3, c4, hc3, hc4, hasg⟩ := Cond.castable_spec hcast
  cases Option.some.inj (hc3.symm.trans hcl)
  obtain ⟨c5, hc5, hcl5⟩ := Cond.classLink_spec hown hlink e.platform hpl
  cases Option.some.inj (hc4.symm.trans hc5)
  obtain ⟨vm', X', st⟩ := X.thenCaughtThrough q (g := F0 m pc ls rest) rfl (Steps.refl _) (by rw [hT]; exact hcell) (by rw [hv]; rfl) (by obtain ⟨k9, h9, -⟩ := Vm.findClass_spec hcl; exact ⟨k9, h9⟩) pre x suf hsplit
    (fun z hz => by
      rcases hpass z hz with h | ⟨hz0, nm, hl1, hn1⟩
      · exact Or.inl h
      · obtain ⟨c6, hc6, hcl6⟩ := Cond.classLink_spec hown hl1 e.platform hpl
        obtain ⟨a8, b8, h1, h2, h3⟩ := hn1
        cases Option.some.inj (h1.symm.trans hcl)
        cases Option.some.inj (h2.symm.trans hc6)
        exact Or.inr ⟨hz0, _, hcl6, h3⟩) hx (Or.inr ⟨h0, c4, hcl5, hasg⟩)
  obtain ⟨t, a1, b1⟩ := kk (T.setVm vm') hT X'
  exact ⟨t, st.trans a1, b1⟩
end Rows
section Ends
variable {p : Program} {l : Launch} {e : Env} {R : Room} {s : State} {m : MethodId} {args : Array Value} {below : List Frame} {meth : Method} {c : Code} {H : Heap} {locs : List Loc} {cells slots : Nat} {Q : State → Prop}
variable {mc ms : Nat} {free : Addr → Prop} {A0 A1 : Nat → Prop} {H0 : Heap} {a : Array Value} {ls : Array Slot} {st0 rest : List Value}
variable {Qc : Array Value → State → Outcome → State → Prop} {XC : String → State → State → Prop}
/-- what a body that may throw owes at its end -/
def vx_MQ (below : List Frame) (Qc : Array Value → State → Outcome → State → Prop) (XC : String → State → State → Prop) (a : Array Value) (s : State) (mc ms : Nat) (free : Addr → Prop) : State → Prop := fun t =>
  ∃ o, t.status = .running ∧ Ended t below o ∧ vx_Q Qc XC mc ms free a s o t
theorem vx_ret {g : JFrame} {mc ms : Nat} (k : W p l e R s m args below meth c H locs cells slots (MQ below Qc args s mc ms free) g) : W p l e R s m args below meth c H locs cells slots (vx_MQ below Qc XC args s mc ms free) g := by
  intro T hT X
  obtain ⟨t, a1, o, b1, b2, b3, b4⟩ := k T hT X
  exact ⟨t, a1, o, b1, b2, Or.inl ⟨b3, b4⟩⟩
/-- not caught here: it goes on to the caller -/
theorem vx_widen {g : JFrame} {q : Addr} {k n : Nat} (h1 : cells ≤ k) (h2 : slots ≤ n) (kk : vx_W p l e R s m args below meth c H locs k n Q g q) : vx_W p l e R s m args below meth c H locs cells slots Q g q := fun T hT X => kk T hT (stand_widen X h1 h2)
theorem vx_out {pc : Nat} {E : String} {ce : Cell} {q : Addr} {mc ms : Nat} (hout : ∀ x ∈ c.exceptionTable.toList, covers x pc = false) (hlocks : meth.locks = false) (hcell : H[q]? = some ce) (hv : ce.vm = .none) (hcl : s.vm.findClass E = some ce.cls)
    (hx : ∀ t : State, t.heap = H → s.vm.Alike t.vm → XC E s t) (hf : ∀ z ∈ locs, free z.base) (hc : cells ≤ mc) (hs : slots ≤ ms) :
    vx_W p l e R s m args below meth c H locs cells slots (vx_MQ below Qc XC args s mc ms free) (F0 m pc ls rest) q := by
  intro T hT X
  obtain ⟨st1, hrun, hend, hW, hsm⟩ := X.leaveThrown q (g := F0 m pc ls rest) rfl rfl rfl hout hlocks
  have hcell9 : (T.setFrames (.throwing q :: below)).heap[q]? = some ce := by
    show T.heap[q]? = some ce
    rw [hT]; exact hcell
  exact ⟨_, st1, .threw q, hrun, hend, Or.inr ⟨q, rfl, E, ce, locs, hx _ hT hW.alike, hcell9, hv, hcl, hW, hsm.mono hc hs, hf⟩⟩
theorem vx_frame {U : State} {k n : Nat} (h : s.sameButNew ({ U with vm := s.vm } : State) locs k n) : s.heap.size ≤ U.heap.size ∧ ∀ q : Nat, q < s.heap.size → (∀ z ∈ locs, z.base ≠ q) → U.heap[q]? = s.heap[q]? := by
  obtain ⟨-, h2, -, -, -, h6⟩ := h
  refine ⟨h2, fun q hq hz => ?_⟩
  obtain ⟨c9, e1, e2, e3, e4⟩ := h6 q _ (Array.getElem?_eq_getElem hq)
  have hs : c9.slots = (s.heap[q]).slots := Array.ext_getElem? fun i => e4 i fun hm => hz _ hm rfl
  have h9 : c9 = s.heap[q] := by
    rw [hs] at e2
    exact e2
  have e5 : U.heap[q]? = some c9 := e1
  rw [e5, h9, Array.getElem?_eq_getElem hq]
/-- the words of a throw but the four that speak of the heap -/
def vx_no (w : Cond) : Bool := decide (w ≠ .isRef (.static Bundle.tN "UNASSIGNED_STACK" Bundle.steD)) && decide (w ≠ .isRef (.static Bundle.tN "SUPPRESSED_SENTINEL" Bundle.listD)) && decide (w ≠ .laysStatic Bundle.tN "UNASSIGNED_STACK" Bundle.steD) && decide (w ≠ .laysStatic Bundle.tN "SUPPRESSED_SENTINEL" Bundle.listD)
def vx_at0 (own : String) (ic : Nat) (X : String) (names : List String) : List Cond := (Bundle.ownAtoms0 own ic X names).filter vx_no
def vx_atS (own : String) (ic : Nat) (X : String) (names : List String) : List Cond := (Bundle.ownAtoms own ic X names).filter vx_no
/-- a word that the tables alone decide, or a good one -/
def vx_ot (w : Cond) : Bool := w.onTables || goodWord w
theorem vx_ot_at {args a' : Array Value} {s U : State} {w : Cond} (hW : s.WarmedH U.vm) (hvm : s.vm = U.vm) (hg : vx_ot w = true) (h : w.before args s = true) : w.before a' U = true := by
  simp only [vx_ot, Bool.or_eq_true] at hg
  rcases hg with hg | hg
  · exact va_tabs hg hvm h
  · exact word_at hW (good_of_word hg) h
/-- a list's words: the good ones out of the method's own list, the others by premises of their own -/
theorem vx_hat {args : Array Value} {s : State} {L B : List Cond} (h1 : ∀ w ∈ L.filter goodWord, w.before args s = true) (h2 : ∀ w ∈ L.filter (fun w => !goodWord w), w ∈ B) (h3 : ∀ w ∈ B, w.before args s = true) : ∀ w ∈ L, w.before args s = true := by
  intro w hw
  by_cases g : goodWord w = true
  · exact h1 w (List.mem_filter.mpr ⟨hw, g⟩)
  · refine h3 w (h2 w (List.mem_filter.mpr ⟨hw, ?_⟩))
    show (!goodWord w) = true
    cases hgw : goodWord w
    · rfl
    · exact absurd hgw g
theorem vx_c {args : Array Value} {s : State} {w : Cond} {B : List Cond} (h : w.before args s = true) (t : ∀ w ∈ B, w.before args s = true) : ∀ w' ∈ w :: B, w'.before args s = true := fun w' h' => (List.mem_cons.mp h').elim (fun e => by rw [e]; exact h) (t w')
theorem vx_n {args : Array Value} {s : State} : ∀ w ∈ ([] : List Cond), w.before args s = true := fun _ h => nomatch h
theorem vx_own {args : Array Value} {s : State} {L : List Cond} (h1 : ∀ w ∈ L.filter vx_no, w.before args s = true)
    (hU : (Cond.isRef (.static Bundle.tN "UNASSIGNED_STACK" Bundle.steD)).before args s = true) (hN : (Cond.isRef (.static Bundle.tN "SUPPRESSED_SENTINEL" Bundle.listD)).before args s = true)
    (lU : (Cond.laysStatic Bundle.tN "UNASSIGNED_STACK" Bundle.steD).before args s = true) (lN : (Cond.laysStatic Bundle.tN "SUPPRESSED_SENTINEL" Bundle.listD).before args s = true) : ∀ w ∈ L, w.before args s = true := by
  intro w hw
  by_cases e1 : w = .isRef (.static Bundle.tN "UNASSIGNED_STACK" Bundle.steD)
  · rw [e1]; exact hU
  · by_cases e2 : w = .isRef (.static Bundle.tN "SUPPRESSED_SENTINEL" Bundle.listD)
    · rw [e2]; exact hN
    · by_cases e3 : w = .laysStatic Bundle.tN "UNASSIGNED_STACK" Bundle.steD
      · rw [e3]; exact lU
      · by_cases e4 : w = .laysStatic Bundle.tN "SUPPRESSED_SENTINEL" Bundle.listD
        · rw [e4]; exact lN
        · exact h1 w (List.mem_filter.mpr ⟨hw, by unfold vx_no; rw [decide_eq_true e1, decide_eq_true e2, decide_eq_true e3, decide_eq_true e4]; rfl⟩)
/-- where a static field lies, its class's statics cell in H -/
def vx_L (C n d : String) (A : Nat → Prop) (U : State) (H : Heap) : Prop := ∃ (c : ClassId) (k : Class) (i : Nat) (f : Field) (a : Nat) (cell : Cell), U.vm.findClass C = some c ∧ U.fieldFound? C n d = some (c, k, i, f) ∧ f.isStatic = true ∧ k.statics = some a ∧ H[a]? = some cell ∧ cell.vm.isStatics = true ∧ cell.cls = c ∧ f.slot < cell.slots.size ∧ k.staticTypes[f.slot]? = some f.type ∧ ¬ A a
theorem vx_L.moved {C n d : String} {A : Nat → Prop} {u U : State} {H : Heap} (hvm : u.vm.Alike U.vm) (h : vx_L C n d A u H) : vx_L C n d A U H := by
  obtain ⟨c, k, i, f, a, cell, h1, h2, h3, h4, h5, h6, h7, h8, h9, h10⟩ := h
  obtain ⟨k', hi', he⟩ := State.fieldFound?_setVm hvm h2
  exact ⟨c, k', i, f, a, cell, by rw [hvm.findClass]; exact h1, hi', h3, by rw [he]; exact h4, h5, h6, h7, h8, by rw [he]; exact h9, h10⟩
theorem vx_L.kept {C n d : String} {A : Nat → Prop} {U : State} {H H1 : Heap} (h : vx_L C n d A U H) (hq : ∀ a : Nat, a < H.size → ¬ A a → H1[a]? = H[a]?) : vx_L C n d A U H1 := by
  obtain ⟨c, k, i, f, a, cell, h1, h2, h3, h4, h5, h6, h7, h8, h9, h10⟩ := h
  exact ⟨c, k, i, f, a, cell, h1, h2, h3, h4, by rw [hq a (Array.getElem?_eq_some_iff.mp h5).1 h10]; exact h5, h6, h7, h8, h9, h10⟩
theorem vx_L.narrow {C n d : String} {A B : Nat → Prop} {U : State} {H : Heap} (h : vx_L C n d A U H) (hAB : ∀ q, B q → A q) : vx_L C n d B U H := by
  obtain ⟨c, k, i, f, a, cell, h1, h2, h3, h4, h5, h6, h7, h8, h9, h10⟩ := h
  exact ⟨c, k, i, f, a, cell, h1, h2, h3, h4, h5, h6, h7, h8, h9, fun z => h10 (hAB _ z)⟩
theorem vx_L.word {C n d : String} {A : Nat → Prop} {s : State} {args : Array Value} (h : vx_L C n d A s s.heap) : (Cond.laysStatic C n d).before args s = true := by
  obtain ⟨c, k, i, f, a, cell, h1, h2, h3, h4, h5, h6, h7, h8, h9, -⟩ := h
  show (Cond.laysStatic C n d).holds args s none s [] = true
  exact Cond.laysStatic_of h1 h2 h3 h4 h5 h6 h7 h8 h9
/-- .. and what it holds: null or some reference -/
def vx_Zq (C n d : String) (A : Nat → Prop) (U : State) (H : Heap) : Prop := va_Zq C n d A U H ∧ vx_L C n d A U H
theorem vx_Zq.moved {C n d : String} {A : Nat → Prop} {u U : State} {H : Heap} (hvm : u.vm.Alike U.vm) (h : vx_Zq C n d A u H) : vx_Zq C n d A U H := ⟨va_Zq.moved hvm h.1, vx_L.moved hvm h.2⟩
theorem vx_Zq.kept {C n d : String} {A : Nat → Prop} {U : State} {H H1 : Heap} (h : vx_Zq C n d A U H) (hq : ∀ a : Nat, a < H.size → ¬ A a → H1[a]? = H[a]?) : vx_Zq C n d A U H1 := ⟨va_Zq.kept h.1 hq, vx_L.kept h.2 hq⟩
theorem vx_Zq.narrow {C n d : String} {A B : Nat → Prop} {U : State} {H : Heap} (h : vx_Zq C n d A U H) (hAB : ∀ q, B q → A q) : vx_Zq C n d B U H := ⟨va_Zq.narrow h.1 hAB, vx_L.narrow h.2 hAB⟩
theorem vx_Zqof {args : Array Value} {s : State} {C n d : String} {A : Nat → Prop} (hl : (Cond.laysStatic C n d).before args s = true) (hini : (Cond.initialized C).before args s = true) (h : (Cond.isRef (.static C n d)).before args s = true) (hA : ∀ a : Nat, a < s.heap.size → ¬ A a) : vx_Zq C n d A s s.heap := by
  refine ⟨va_Zqof hl hini h hA, ?_⟩
  obtain ⟨c, k, i, f, a, cell, h1, h2, h3, h4, h5, h6, h7, h8, h9⟩ := Cond.laysStatic_spec hl
  exact ⟨c, k, i, f, a, cell, h1, h2, h3, h4, h5, h6, h7, h8, h9, hA a (Array.getElem?_eq_some_iff.mp h5).1⟩
theorem vx_isRef {C n d : String} {v : Value} {A : Nat → Prop} {s : State} {args : Array Value} (h : va_Z C n d v A s s.heap) (hv : v.isRef = true) : (Cond.isRef (.static C n d)).before args s = true := by
  obtain ⟨cf, kf, fi, f, a, cell, h1, h2, h3, h4, h5, h6, h7, -⟩ := h
  have he : (Term.static C n d).eval args s none [] s = some v := by
    simp [Term.eval, State.fieldNamed?, h1, h2, h4, h5, h6, h7]
  simp only [Cond.before, Cond.holds, Cond.value, he]
  cases v <;> simp_all [Value.isRef]
theorem vx_isRefq {C n d : String} {A : Nat → Prop} {s : State} {args : Array Value} (h : va_Zq C n d A s s.heap) : (Cond.isRef (.static C n d)).before args s = true := by
  rcases h with h | ⟨t, h⟩
  · exact vx_isRef h rfl
  · exact vx_isRef h rfl
/-- the same frame, seen from here: as if the method were called anew in this heap -/
theorem vx_rebase {T : State} (X : Stand p l e R s m args below meth c T locs cells slots) {R' : Room} (hf : R'.frames ≤ R.frames) (hl : R'.locals ≤ R.locals) (hc : cells + R'.cells ≤ R.cells) (hs : slots + R'.slots ≤ R.slots) :
    Stand p l e R' ((T.setVm s.vm).setFrames (.invoking m args :: below)) m args below meth c T [] 0 0 := by
  have htop : (T.setVm s.vm).topJava?.isSome := X.here.top
  have hF : ((T.setVm s.vm).setFrames (.invoking m args :: below)).frames = .invoking m args :: below := State.frames_setFrames _ (State.cur_lt_of_top htop)
  obtain ⟨g₀, hg0⟩ := Option.isSome_iff_exists.mp htop
  obtain ⟨r, hr⟩ := State.topJava?_eq_some.mp hg0
  have hl9 : e.platform.stackLimits (T.setVm s.vm).me = e.platform.stackLimits s.me := X.limits
  have hb9 : (T.setVm s.vm).me.stackBytes = s.me.stackBytes := X.bytes
  refine ⟨X.admits, X.cas, X.clock, hF, ?_, X.hears, X.method, X.code, X.here, X.tail, X.warmed, ?_, ?_, ?_⟩
  · have h := X.room
    have hU : ((T.setVm s.vm).setFrames (.invoking m args :: below)).localsInUse = s.localsInUse := by
      rw [State.localsInUse_invoking hF (meth := meth) (c := c) X.method X.code, State.localsInUse_invoking X.frames X.method X.code]
    simp only [State.hasRoom, Bool.and_eq_true, decide_eq_true_eq] at h ⊢
    obtain ⟨⟨⟨⟨h1, h2, h3, h4, h5, h6⟩, h7⟩, h8⟩, h9⟩ := h
    rw [X.frames, List.length_cons] at h2 h3
    have q1 := X.heapSize
    have q2 := X.used
    simp only [hF, hU, List.length_cons, State.stackLimits_setFrames, State.stackBytes_setFrames, hl9, hb9]
    refine ⟨⟨⟨⟨by omega, by omega, by omega, by omega, by omega, h6⟩, ?_⟩, ?_⟩, X.book⟩
    · show T.heap.size + R'.cells ≤ e.platform.maxCells
      omega
    · show T.slotsUsed + R'.slots ≤ e.platform.maxSlots
      omega
  · rw [State.stackLimits_setFrames]; rfl
  · rw [State.stackBytes_setFrames]; rfl
  · refine ⟨?_, Nat.le_refl _, Nat.le_refl _, ?_, ?_, fun a c9 h9 => ⟨c9, h9, rfl, rfl, fun _ _ => rfl⟩⟩
    · obtain ⟨t, ht, -⟩ := State.frames_cons hr
      show T.setVm s.vm = { ((T.setVm s.vm).setFrames (.invoking m args :: below)).setFrames (T.setVm s.vm).frames with heap := T.heap, slotsUsed := T.slotsUsed }
      rw [State.setFrames_setFrames, State.setFrames_self ht]
      rfl
    · show T.slotsUsed = T.slotsUsed + ((T.heap.toList.drop T.heap.size).map (·.slots.size)).sum
      rw [List.drop_eq_nil_of_le (Nat.le_of_eq Array.length_toList)]
      rfl
    · show ((T.heap.toList.drop T.heap.size).map (·.slots.size)).sum ≤ 0
      rw [List.drop_eq_nil_of_le (Nat.le_of_eq Array.length_toList)]
      exact Nat.le_refl _
/-- 'throw new E()': new; dup; invokespecial; athrow -/
theorem vx_throw0 {cc : ByteArray} {pc : Nat} (hexec : p.tables.exec = Jvm.exec) (hb : c.code = cc) (hl : l.stackTraces = false) {own cls : String} {names : List String} {ik ic mc ms : Nat} {A : Nat → Prop}
    (hown : s.vm.findClass own = some m.cls) (hcls : Bundle.fit cls = true) (hnames : ∀ n ∈ names, Bundle.fit n = true)
    (hk : (Cond.classLink own ik cls).before args s = true) (hini : (Cond.initialized cls).before args s = true) (hat : ∀ w ∈ vx_at0 own ic cls names, w.before args s = true)
    (hgood : ∀ w ∈ Cond.classLink own ik cls :: Cond.initialized cls :: vx_at0 own ic cls names, vx_ot w = true)
    (hU : vx_Zq Bundle.tN "UNASSIGNED_STACK" Bundle.steD A s s.heap) (hN : vx_Zq Bundle.tN "SUPPRESSED_SENTINEL" Bundle.listD A s s.heap) (hS : va_S A s.heap H locs) (hsize : ls.size = c.maxLocals)
    (d0 : decode cc pc = .ok (.new ik, 3)) (d3 : decode cc (pc + 3) = .ok (.dup, 1)) (d4 : decode cc (pc + 4) = .ok (.invokespecial ic, 3)) (d7 : decode cc (pc + 7) = .ok (.athrow, 1))
    (hout : ∀ x ∈ c.exceptionTable.toList, covers x (pc + 7) = false)
    (hRframes : names.length + 3 < R.frames) (hRlocals : (rest.map fun v => v.category).sum + (13 * (names.length + 1) + 42) ≤ R.locals) (hRcells : cells + 1 ≤ R.cells) (hRslots : slots + 6 ≤ R.slots) (hlocks : meth.locks = false)
    (hx : ∀ t : State, s.vm.Alike t.vm → H.size ≤ t.heap.size → (∀ q : Nat, q < H.size → t.heap[q]? = H[q]?) → XC cls s t)
    (hf : ∀ z ∈ locs, free z.base) (hc : cells + 1 ≤ mc) (hs : slots + 6 ≤ ms) :
    W p l e R s m args below meth c H locs cells slots (vx_MQ below Qc XC args s mc ms free) (F0 m pc ls rest) := by
  intro T hT X
  have htr : e.platform.stackTraces = false := (show e.platform.stackTraces = l.stackTraces by rw [X.admits.platform]).trans hl
  have Y := vx_rebase X (R' := { frames := R.frames, locals := R.locals, cells := 1, slots := 6 }) (Nat.le_refl _) (Nat.le_refl _) hRcells hRslots
  obtain ⟨s', hA⟩ : ∃ z, z = (T.setVm s.vm).setFrames (.invoking m args :: below) := ⟨_, rfl⟩
  rw [← hA] at Y
  have hvm : s'.vm = s.vm := by rw [hA]; rfl
  have hhp : s'.heap = H := by rw [hA]; exact hT
  have hW0 : s.WarmedH s'.vm := by rw [hvm]; exact State.WarmedH.refl s
  have hat' : ∀ w ∈ vx_at0 own ic cls names, w.before args s' = true := fun w hw => vx_ot_at hW0 hvm.symm (hgood w (List.mem_cons_of_mem _ (List.mem_cons_of_mem _ hw))) (hat w hw)
  have hk' : (Cond.classLink own ik cls).before args s' = true := vx_ot_at hW0 hvm.symm (hgood _ List.mem_cons_self) hk
  have hini' : (Cond.initialized cls).before args s' = true := vx_ot_at hW0 hvm.symm (hgood _ (List.mem_cons_of_mem _ List.mem_cons_self)) hini
  have hU' : vx_Zq Bundle.tN "UNASSIGNED_STACK" Bundle.steD A s' s'.heap := by rw [hhp]; exact vx_Zq.moved hW0.alike (hU.kept hS.2.1)
  have hN' : vx_Zq Bundle.tN "SUPPRESSED_SENTINEL" Bundle.listD A s' s'.heap := by rw [hhp]; exact vx_Zq.moved hW0.alike (hN.kept hS.2.1)
  have h : ∀ w ∈ Bundle.ownAtoms0 own ic cls names, w.before args s' = true := vx_own hat' (vx_isRefq hU'.1) (vx_isRefq hN'.1) hU'.2.word hN'.2.word
  have hown' : s'.vm.findClass own = some m.cls := by rw [hvm]; exact hown
  have hins : (Cond.instantiable cls 6).before args s' = true := h _ (by simp [Bundle.ownAtoms0])
  obtain ⟨vm₁, cX, kX, hfX, hkX, -, -, X₁, st1⟩ := Y.newCold hexec (own := own) (C := cls) (index := ik) (n := 6) hown' hk' hins hini'
    (g := F0 m pc ls rest) rfl (by rw [hb]; exact d0) (Nat.le_refl _) (Nat.le_refl _)
  generalize hT1 : (T.setVm vm₁).pushCell { cls := cX, slots := kX.instanceTypes.map defaultValue, vm := .none } = T1 at X₁ st1
  have hcat : (Value.ref T.heap.size).category = 1 := rfl
  have hcellA : T1.heap[T.heap.size]? = some (freshCell cX kX) := by rw [← hT1]; exact State.heap_pushCell_size _ _
  have d3' : decode c.code (pc + 3) = .ok (.dup, 1) := by rw [hb]; exact d3
  obtain ⟨U, hsteps, hrun, hend, hW, hsame, ce, hce, hO⟩ := X₁.ctorThrow0 hexec htr (own := own) (cls := cls) (names := names) (ic := ic) hown' hcls hnames h (fun x hx => nomatch hx) hfX hkX hcellA (by rw [hhp, hT]; exact Nat.le_refl _)
    (g := { method := m, pc := pc + 4, locals := ls, stack := .ref T.heap.size :: .ref T.heap.size :: rest, locked := none }) rfl hsize rfl rfl (rest := rest) rfl
    (by rw [hb]; exact d4) (by rw [hb]; exact d7) hout hRframes (by simp only [List.map_cons, List.sum_cons, hcat]; omega) hlocks
  obtain ⟨f1, f2⟩ := vx_frame hsame
  rw [hhp] at f1 f2
  have hWs : s.WarmedH U.vm := State.WarmedH.trans hW0 hW
  have hcl : s.vm.findClass cls = some ce.cls := by
    have h9 := hO.cls
    rw [hvm] at h9
    exact h9
  have hall : s.sameButNew ({ U with vm := s.vm } : State) locs mc ms := by
    subst hA
    obtain ⟨e1, e2⟩ := hsame
    rw [State.setFrames_setFrames] at e1
    have h2 : (T.setVm s.vm).sameButNew ({ U with vm := s.vm } : State) [] (0 + 1) (0 + 6) := ⟨e1, e2⟩
    have h3 := X.same.trans h2
    rw [List.append_nil] at h3
    exact h3.mono hc hs
  refine ⟨U, ?_, .threw T.heap.size, hrun, hend, Or.inr ⟨T.heap.size, rfl, cls, ce, locs, hx U hWs.alike f1 (fun q hq => f2 q hq (fun z hz => nomatch hz)), hce, hO.vm, hcl, hWs, hall, hf⟩⟩
  refine st1 _ ?_
  show Steps p.tables e below (T1.setTop { method := m, pc := pc + 3, locals := ls, stack := .ref T.heap.size :: rest, locked := none }) _
  jvm_step X₁.here [X₁.here.top, hexec, d3', Value.category]
  exact hsteps
/-- 'throw new E("text")': new; dup; ldc; invokespecial; athrow -/
theorem vx_throwS {cc : ByteArray} {pc : Nat} (hexec : p.tables.exec = Jvm.exec) (hb : c.code = cc) (hl : l.stackTraces = false) {own cls text : String} {names : List String} {ik is ic mc ms sa : Nat} {A : Nat → Prop}
    (hown : s.vm.findClass own = some m.cls) (hcls : Bundle.fit cls = true) (hnames : ∀ n ∈ names, Bundle.fit n = true)
    (hk : (Cond.classLink own ik cls).before args s = true) (hini : (Cond.initialized cls).before args s = true) (hstr : vk_R own is text sa s) (hat : ∀ w ∈ vx_atS own ic cls names, w.before args s = true)
    (hgood : ∀ w ∈ Cond.classLink own ik cls :: Cond.initialized cls :: vx_atS own ic cls names, vx_ot w = true)
    (hU : vx_Zq Bundle.tN "UNASSIGNED_STACK" Bundle.steD A s s.heap) (hN : vx_Zq Bundle.tN "SUPPRESSED_SENTINEL" Bundle.listD A s s.heap) (hS : va_S A s.heap H locs) (hsize : ls.size = c.maxLocals)
    (d0 : decode cc pc = .ok (.new ik, 3)) (d3 : decode cc (pc + 3) = .ok (.dup, 1)) (d4 : decode cc (pc + 4) = .ok (.ldc is, 2)) (d6 : decode cc (pc + 6) = .ok (.invokespecial ic, 3)) (d9 : decode cc (pc + 9) = .ok (.athrow, 1))
    (hout : ∀ x ∈ c.exceptionTable.toList, covers x (pc + 9) = false)
    (hRframes : names.length + 3 < R.frames) (hRlocals : (rest.map fun v => v.category).sum + (13 * (names.length + 1) + 43) ≤ R.locals) (hRcells : cells + 1 ≤ R.cells) (hRslots : slots + 6 ≤ R.slots) (hlocks : meth.locks = false)
    (hx : ∀ t : State, s.vm.Alike t.vm → H.size ≤ t.heap.size → (∀ q : Nat, q < H.size → t.heap[q]? = H[q]?) → XC cls s t)
    (hf : ∀ z ∈ locs, free z.base) (hc : cells + 1 ≤ mc) (hs : slots + 6 ≤ ms) :
    W p l e R s m args below meth c H locs cells slots (vx_MQ below Qc XC args s mc ms free) (F0 m pc ls rest) := by
  intro T hT X
  have htr : e.platform.stackTraces = false := (show e.platform.stackTraces = l.stackTraces by rw [X.admits.platform]).trans hl
  have Y := vx_rebase X (R' := { frames := R.frames, locals := R.locals, cells := 1, slots := 6 }) (Nat.le_refl _) (Nat.le_refl _) hRcells hRslots
  obtain ⟨s', hA⟩ : ∃ z, z = (T.setVm s.vm).setFrames (.invoking m args :: below) := ⟨_, rfl⟩
  rw [← hA] at Y
  have hvm : s'.vm = s.vm := by rw [hA]; rfl
  have hhp : s'.heap = H := by rw [hA]; exact hT
  have hW0 : s.WarmedH s'.vm := by rw [hvm]; exact State.WarmedH.refl s
  have hat' : ∀ w ∈ vx_atS own ic cls names, w.before args s' = true := fun w hw => vx_ot_at hW0 hvm.symm (hgood w (List.mem_cons_of_mem _ (List.mem_cons_of_mem _ hw))) (hat w hw)
  have hk' : (Cond.classLink own ik cls).before args s' = true := vx_ot_at hW0 hvm.symm (hgood _ List.mem_cons_self) hk
  have hini' : (Cond.initialized cls).before args s' = true := vx_ot_at hW0 hvm.symm (hgood _ (List.mem_cons_of_mem _ List.mem_cons_self)) hini
  have hU' : vx_Zq Bundle.tN "UNASSIGNED_STACK" Bundle.steD A s' s'.heap := by rw [hhp]; exact vx_Zq.moved hW0.alike (hU.kept hS.2.1)
  have hN' : vx_Zq Bundle.tN "SUPPRESSED_SENTINEL" Bundle.listD A s' s'.heap := by rw [hhp]; exact vx_Zq.moved hW0.alike (hN.kept hS.2.1)
  have h : ∀ w ∈ Bundle.ownAtoms own ic cls names, w.before args s' = true := vx_own hat' (vx_isRefq hU'.1) (vx_isRefq hN'.1) hU'.2.word hN'.2.word
  have hown' : s'.vm.findClass own = some m.cls := by rw [hvm]; exact hown
  have hins : (Cond.instantiable cls 6).before args s' = true := h _ (by simp [Bundle.ownAtoms])
  obtain ⟨vm₁, cX, kX, hfX, hkX, -, -, X₁, st1⟩ := Y.newCold hexec (own := own) (C := cls) (index := ik) (n := 6) hown' hk' hins hini'
    (g := F0 m pc ls rest) rfl (by rw [hb]; exact d0) (Nat.le_refl _) (Nat.le_refl _)
  generalize hT1 : (T.setVm vm₁).pushCell { cls := cX, slots := kX.instanceTypes.map defaultValue, vm := .none } = T1 at X₁ st1
  have hcat : (Value.ref T.heap.size).category = 1 := rfl
  have hcellA : T1.heap[T.heap.size]? = some (freshCell cX kX) := by rw [← hT1]; exact State.heap_pushCell_size _ _
  have d3' : decode c.code (pc + 3) = .ok (.dup, 1) := by rw [hb]; exact d3
  have d4' : decode c.code (pc + 4) = .ok (.ldc is, 2) := by rw [hb]; exact d4
  have hstr' : vk_R own is text sa s' := vk_R.warm hW0 hstr
  obtain ⟨U, hsteps, hrun, hend, hW, hsame, ce, hce, hO⟩ := X₁.ctorThrowS hexec htr (own := own) (cls := cls) (names := names) (ic := ic) hown' hcls hnames h (fun x hx => nomatch hx) hfX hkX hcellA (by rw [hhp, hT]; exact Nat.le_refl _) (msg := .ref sa) rfl
    (g := { method := m, pc := pc + 6, locals := ls, stack := .ref sa :: .ref T.heap.size :: .ref T.heap.size :: rest, locked := none }) rfl hsize rfl rfl (rest := rest) rfl
    (by rw [hb]; exact d6) (by rw [hb]; exact d9) hout hRframes (by simp only [List.map_cons, List.sum_cons, hcat]; omega) hlocks
  obtain ⟨f1, f2⟩ := vx_frame hsame
  rw [hhp] at f1 f2
  have hWs : s.WarmedH U.vm := State.WarmedH.trans hW0 hW
  have hcl : s.vm.findClass cls = some ce.cls := by
    have h9 := hO.cls
    rw [hvm] at h9
    exact h9
  have hall : s.sameButNew ({ U with vm := s.vm } : State) locs mc ms := by
    subst hA
    obtain ⟨e1, e2⟩ := hsame
    rw [State.setFrames_setFrames] at e1
    have h2 : (T.setVm s.vm).sameButNew ({ U with vm := s.vm } : State) [] (0 + 1) (0 + 6) := ⟨e1, e2⟩
    have h3 := X.same.trans h2
    rw [List.append_nil] at h3
    exact h3.mono hc hs
  refine ⟨U, ?_, .threw T.heap.size, hrun, hend, Or.inr ⟨T.heap.size, rfl, cls, ce, locs, hx U hWs.alike f1 (fun q hq => f2 q hq (fun z hz => nomatch hz)), hce, hO.vm, hcl, hWs, hall, hf⟩⟩
  refine st1 _ ?_
  show Steps p.tables e below (T1.setTop { method := m, pc := pc + 3, locals := ls, stack := .ref T.heap.size :: rest, locked := none }) _
  jvm_step X₁.here [X₁.here.top, hexec, d3', Value.category]
  exact X₁.ldcString hexec (own := own) (text := text) (index := is) (a := sa) hown' hstr'.1 hstr'.2
    (g := { method := m, pc := pc + 4, locals := ls, stack := .ref T.heap.size :: .ref T.heap.size :: rest, locked := none }) rfl d4' _ hsteps
/-- 'throw new E("text")', the text by a wide index -/
theorem vx_throwSW {cc : ByteArray} {pc : Nat} (hexec : p.tables.exec = Jvm.exec) (hb : c.code = cc) (hl : l.stackTraces = false) {own cls text : String} {names : List String} {ik is ic mc ms sa : Nat} {A : Nat → Prop}
    (hown : s.vm.findClass own = some m.cls) (hcls : Bundle.fit cls = true) (hnames : ∀ n ∈ names, Bundle.fit n = true)
    (hk : (Cond.classLink own ik cls).before args s = true) (hini : (Cond.initialized cls).before args s = true) (hstr : vk_R own is text sa s) (hat : ∀ w ∈ vx_atS own ic cls names, w.before args s = true)
    (hgood : ∀ w ∈ Cond.classLink own ik cls :: Cond.initialized cls :: vx_atS own ic cls names, vx_ot w = true)
    (hU : vx_Zq Bundle.tN "UNASSIGNED_STACK" Bundle.steD A s s.heap) (hN : vx_Zq Bundle.tN "SUPPRESSED_SENTINEL" Bundle.listD A s s.heap) (hS : va_S A s.heap H locs) (hsize : ls.size = c.maxLocals)
    (d0 : decode cc pc = .ok (.new ik, 3)) (d3 : decode cc (pc + 3) = .ok (.dup, 1)) (d4 : decode cc (pc + 4) = .ok (.ldc_w is, 3)) (d7 : decode cc (pc + 7) = .ok (.invokespecial ic, 3)) (d10 : decode cc (pc + 10) = .ok (.athrow, 1))
    (hout : ∀ x ∈ c.exceptionTable.toList, covers x (pc + 10) = false)
    (hRframes : names.length + 3 < R.frames) (hRlocals : (rest.map fun v => v.category).sum + (13 * (names.length + 1) + 43) ≤ R.locals) (hRcells : cells + 1 ≤ R.cells) (hRslots : slots + 6 ≤ R.slots) (hlocks : meth.locks = false)
    (hx : ∀ t : State, s.vm.Alike t.vm → H.size ≤ t.heap.size → (∀ q : Nat, q < H.size → t.heap[q]? = H[q]?) → XC cls s t)
    (hf : ∀ z ∈ locs, free z.base) (hc : cells + 1 ≤ mc) (hs : slots + 6 ≤ ms) :
    W p l e R s m args below meth c H locs cells slots (vx_MQ below Qc XC args s mc ms free) (F0 m pc ls rest) := by
  intro T hT X
  have htr : e.platform.stackTraces = false := (show e.platform.stackTraces = l.stackTraces by rw [X.admits.platform]).trans hl
  have Y := vx_rebase X (R' := { frames := R.frames, locals := R.locals, cells := 1, slots := 6 }) (Nat.le_refl _) (Nat.le_refl _) hRcells hRslots
  obtain ⟨s', hA⟩ : ∃ z, z = (T.setVm s.vm).setFrames (.invoking m args :: below) := ⟨_, rfl⟩
  rw [← hA] at Y
  have hvm : s'.vm = s.vm := by rw [hA]; rfl
  have hhp : s'.heap = H := by rw [hA]; exact hT
  have hW0 : s.WarmedH s'.vm := by rw [hvm]; exact State.WarmedH.refl s
  have hat' : ∀ w ∈ vx_atS own ic cls names, w.before args s' = true := fun w hw => vx_ot_at hW0 hvm.symm (hgood w (List.mem_cons_of_mem _ (List.mem_cons_of_mem _ hw))) (hat w hw)
  have hk' : (Cond.classLink own ik cls).before args s' = true := vx_ot_at hW0 hvm.symm (hgood _ List.mem_cons_self) hk
  have hini' : (Cond.initialized cls).before args s' = true := vx_ot_at hW0 hvm.symm (hgood _ (List.mem_cons_of_mem _ List.mem_cons_self)) hini
  have hU' : vx_Zq Bundle.tN "UNASSIGNED_STACK" Bundle.steD A s' s'.heap := by rw [hhp]; exact vx_Zq.moved hW0.alike (hU.kept hS.2.1)
  have hN' : vx_Zq Bundle.tN "SUPPRESSED_SENTINEL" Bundle.listD A s' s'.heap := by rw [hhp]; exact vx_Zq.moved hW0.alike (hN.kept hS.2.1)
  have h : ∀ w ∈ Bundle.ownAtoms own ic cls names, w.before args s' = true := vx_own hat' (vx_isRefq hU'.1) (vx_isRefq hN'.1) hU'.2.word hN'.2.word
  have hown' : s'.vm.findClass own = some m.cls := by rw [hvm]; exact hown
  have hins : (Cond.instantiable cls 6).before args s' = true := h _ (by simp [Bundle.ownAtoms])
  obtain ⟨vm₁, cX, kX, hfX, hkX, -, -, X₁, st1⟩ := Y.newCold hexec (own := own) (C := cls) (index := ik) (n := 6) hown' hk' hins hini'
    (g := F0 m pc ls rest) rfl (by rw [hb]; exact d0) (Nat.le_refl _) (Nat.le_refl _)
  generalize hT1 : (T.setVm vm₁).pushCell { cls := cX, slots := kX.instanceTypes.map defaultValue, vm := .none } = T1 at X₁ st1
  have hcat : (Value.ref T.heap.size).category = 1 := rfl
  have hcellA : T1.heap[T.heap.size]? = some (freshCell cX kX) := by rw [← hT1]; exact State.heap_pushCell_size _ _
  have d3' : decode c.code (pc + 3) = .ok (.dup, 1) := by rw [hb]; exact d3
  have d4' : decode c.code (pc + 4) = .ok (.ldc_w is, 3) := by rw [hb]; exact d4
  have hstr' : vk_R own is text sa s' := vk_R.warm hW0 hstr
  obtain ⟨U, hsteps, hrun, hend, hW, hsame, ce, hce, hO⟩ := X₁.ctorThrowS hexec htr (own := own) (cls := cls) (names := names) (ic := ic) hown' hcls hnames h (fun x hx => nomatch hx) hfX hkX hcellA (by rw [hhp, hT]; exact Nat.le_refl _) (msg := .ref sa) rfl
    (g := { method := m, pc := pc + 7, locals := ls, stack := .ref sa :: .ref T.heap.size :: .ref T.heap.size :: rest, locked := none }) rfl hsize rfl rfl (rest := rest) rfl
    (by rw [hb]; exact d7) (by rw [hb]; exact d10) hout hRframes (by simp only [List.map_cons, List.sum_cons, hcat]; omega) hlocks
  obtain ⟨f1, f2⟩ := vx_frame hsame
  rw [hhp] at f1 f2
  have hWs : s.WarmedH U.vm := State.WarmedH.trans hW0 hW
  have hcl : s.vm.findClass cls = some ce.cls := by
    have h9 := hO.cls
    rw [hvm] at h9
    exact h9
  have hall : s.sameButNew ({ U with vm := s.vm } : State) locs mc ms := by
    subst hA
    obtain ⟨e1, e2⟩ := hsame
    rw [State.setFrames_setFrames] at e1
    have h2 : (T.setVm s.vm).sameButNew ({ U with vm := s.vm } : State) [] (0 + 1) (0 + 6) := ⟨e1, e2⟩
    have h3 := X.same.trans h2
    rw [List.append_nil] at h3
    exact h3.mono hc hs
  refine ⟨U, ?_, .threw T.heap.size, hrun, hend, Or.inr ⟨T.heap.size, rfl, cls, ce, locs, hx U hWs.alike f1 (fun q hq => f2 q hq (fun z hz => nomatch hz)), hce, hO.vm, hcl, hWs, hall, hf⟩⟩
  refine st1 _ ?_
  show Steps p.tables e below (T1.setTop { method := m, pc := pc + 3, locals := ls, stack := .ref T.heap.size :: rest, locked := none }) _
  jvm_step X₁.here [X₁.here.top, hexec, d3', Value.category]
  exact X₁.ldcStringW hexec (own := own) (text := text) (index := is) (a := sa) hown' hstr'.1 hstr'.2
    (g := { method := m, pc := pc + 4, locals := ls, stack := .ref T.heap.size :: .ref T.heap.size :: rest, locked := none }) rfl d4' _ hsteps
end Ends
section Bodies
variable {l : Launch}
theorem vx_ofW {y : MethodName} {ws ws' : List Cond} {rm : Room} {Pc : Array Value → State → Prop} {Qc : Array Value → State → Outcome → State → Prop} {XC : String → State → State → Prop} {mc ms : Nat} {free : Addr → Prop} {cc : ByteArray} {maxL : Nat} {ret : Option FieldType}
    (hy : plainName y.cls = true) (hw : ws = Cond.code y cc maxL ret :: ws')
    (body : ∀ p e s m args below meth c s₁, BodyLoose p l y (headSpec ws rm) cc maxL ret e s m args below meth c s₁ → c.maxLocals = maxL → (∀ x ∈ c.exceptionTable.toList, False) → Pc args s →
      W p l e (headSpec ws rm).room s m args below meth c s.heap [] 0 0 (vx_MQ below Qc XC args s mc ms free) (entryFrame m args maxL)) : vx_Met l y ws rm Pc Qc XC mc ms free := by
  refine MetFree.of_bodyS (code := cc) (maxLocals := maxL) (ret := ret) hy ?_ ?_
  · intro args s m h hn
    obtain ⟨meth, c, h1, h2, h3, h4, h5, h6, -, -⟩ := Cond.code_spec hn (atoms_spec (ws := ws) h _ (by rw [hw]; exact List.mem_cons_self))
    exact ⟨meth, c, h1, h2, h3, h4, h5, h6⟩
  · intro p e s m args below meth c s₁ B hml hP _
    have hh0 : s₁.heap = s.heap := by rw [B.state]; rfl
    have ht : ∀ x ∈ c.exceptionTable.toList, False := by
      obtain ⟨meth9, c9, h1, h2, -, -, -, -, h7, -⟩ := Cond.code_spec B.named (atoms_spec (ws := ws) B.pre _ (by rw [hw]; exact List.mem_cons_self))
      cases Option.some.inj (h1.symm.trans B.method)
      cases Option.some.inj (h2.symm.trans (Stand.of_body B).code)
      intro x hx
      rw [Array.isEmpty_iff.mp h7] at hx
      cases hx
    obtain ⟨t, a1, o, b1, b2, b3⟩ := body p e s m args below meth c s₁ B hml ht hP s₁ hh0 (Stand.of_body B)
    exact ⟨t, o, a1, b1, b2, b3⟩
/-- the table of a body with handlers -/
theorem vx_table {p : Program} {x y : MethodName} {S : Spec} {cc bytes : ByteArray} {maxL maxL' : Nat} {ret ret' : Option FieldType} {e : Env} {s s₁ : State} {m : MethodId} {args : Array Value} {below : List Frame} {meth : Method} {c : Code} {hh : List (Nat × Nat × Nat × Nat)}
    (B : BodyLoose p l y S cc maxL ret e s m args below meth c s₁) (h : (Cond.codeWith y bytes maxL' ret' hh).before args s = true) : c.exceptionTable.toList = tableOf hh := by
  obtain ⟨m9, meth9, c9, hn9, h1, h2, -, -, h6, -⟩ := Cond.codeWith_spec h
  cases Option.some.inj (hn9.symm.trans B.named)
  cases Option.some.inj (h1.symm.trans B.method)
  cases Option.some.inj (h2.symm.trans (Stand.of_body B).code)
  rw [← h6, table_eq]
end Bodies
end VXA
/-! ===== END ===== -/
/-! ===== BEGIN a static call of a method with an exception table ===== -/
section VXS
variable {p : Program} {l : Launch} {e : Env} {R : Room} {s : State} {m : MethodId} {args : Array Value} {below : List Frame} {meth : Method} {c : Code} {T : State} {H : Heap} {locs : List Loc} {cells slots : Nat}
abbrev vx_CSW (R : Room) (s : State) (args : Array Value) (own : String) (index : Nat) (y : MethodName) (bytes : ByteArray) (maxL : Nat) (ret : Option FieldType) (hh : List (Nat × Nat × Nat × Nat)) (ws : List Cond) (rm : Room) (mc ms n : Nat) : Prop :=
  (rm.cells = mc ∧ rm.slots = ms ∧ rm.frames + 1 ≤ R.frames ∧ 8 + (maxL + 11) + rm.locals ≤ R.locals ∧ (∀ w ∈ ws, ∀ (a' : Array Value) (U : State), s.WarmedH U.vm → w.before a' U = true) ∧ Cond.codeWith y bytes maxL ret hh ∈ ws) ∧
  (Cond.codeWith y bytes maxL ret hh).before args s = true ∧ (Cond.initialized y.cls).before args s = true ∧ (y.cls ≠ "java/lang/invoke/MethodHandle" ∧ y.cls ≠ "java/lang/invoke/VarHandle") ∧
  (∀ sig, parseMethodDescriptor y.desc = some sig → n = sig.parameters.length) ∧ (Cond.methodLink own index y).before args s = true ∧ (Cond.static y).before args s = true
theorem vx_cwSW {own : String} {index maxL mc ms : Nat} {y : MethodName} {bytes : ByteArray} {ret : Option FieldType} {hh : List (Nat × Nat × Nat × Nat)} {Ts ws ws' : List Cond} {rm : Room} (n : Nat) (ht : ∀ w ∈ Ts, w.before args s = true) (hT : GoodIn Ts (va_wsS own index y ws)) (hw : ws = Cond.codeWith y bytes maxL ret hh :: ws') (hrc : rm.cells = mc) (hrs : rm.slots = ms)
    (hd : y.cls ≠ "java/lang/invoke/MethodHandle" ∧ y.cls ≠ "java/lang/invoke/VarHandle" ∧ (parseMethodDescriptor y.desc).map (fun d => d.parameters.length) = some n) (hR : rm.frames + 1 ≤ R.frames ∧ 8 + (maxL + 11) + rm.locals ≤ R.locals) :
    vx_CSW R s args own index y bytes maxL ret hh ws rm mc ms n := by
  have ok : ∀ w ∈ va_wsS own index y ws, w.before args s = true := fun w h => ht w (hT w h).1
  have hG : GoodIn Ts ws := fun w h => hT w (by unfold va_wsS; exact List.mem_append_right _ h)
  have hc : Cond.codeWith y bytes maxL ret hh ∈ ws := by rw [hw]; exact List.mem_cons_self
  refine ⟨⟨hrc, hrs, hR.1, hR.2, pay_in ht hG, hc⟩, ht _ (hG _ hc).1, ok _ (by simp [va_wsS]), ⟨hd.1, hd.2.1⟩, fun sig h => ?_, ok _ (by simp [va_wsS]), ok _ (by simp [va_wsS])⟩
  have h2 := hd.2.2
  rw [h] at h2
  exact (Option.some.inj h2).symm
theorem vx_callSW (X : Stand p l e R s m args below meth c T locs cells slots) (hexec : p.tables.exec = Jvm.exec) {own : String} {index : Nat} {y : MethodName} {bytes : ByteArray} {maxL : Nat} {ret : Option FieldType} {hh : List (Nat × Nat × Nat × Nat)}
    (hown : s.vm.findClass own = some m.cls) (hlink : (Cond.methodLink own index y).before args s = true) (hstat : (Cond.static y).before args s = true) (hinit : (Cond.initialized y.cls).before args s = true)
    (hcode : (Cond.codeWith y bytes maxL ret hh).before args s = true) (hy : y.cls ≠ "java/lang/invoke/MethodHandle" ∧ y.cls ≠ "java/lang/invoke/VarHandle")
    {W9 : Nat} {Pre : Pt → Array Value → Prop} {Post : Pt → Array Value → Option Value → Pt → Prop} (hK : Back l R p e below s args y 3 W9 Pre Post)
    {g : JFrame} (hg : g.method = m) (hsize : g.locals.size = c.maxLocals) {argsL rest : List Value} (hlen : ∀ sig, parseMethodDescriptor y.desc = some sig → argsL.length = sig.parameters.length)
    (hstack : g.stack = argsL.reverse ++ rest) (hW : 2 * g.monitorRoom + (rest.map fun v => v.category).sum ≤ W9) (hdg : decode c.code g.pc = .ok (.invokestatic index, 3))
    (hpre : ∀ vm₁, s.WarmedH vm₁ → Pre ⟨T.setVm vm₁, locs, cells, slots⟩ argsL.toArray) :
    ∃ (v : Option Value) (vm₁ : Vm) (B : Pt), s.WarmedH vm₁ ∧ Stand p l e R s m args below meth c B.U B.locs B.cells B.slots ∧ Post ⟨T.setVm vm₁, locs, cells, slots⟩ argsL.toArray v B ∧
      ∀ target, Steps p.tables e below (B.U.setTop { g with pc := g.pc + 3, stack := v.toList ++ rest }) target → Steps p.tables e below (T.setTop g) target := by
  obtain ⟨mk, methM, cM, hnamed, hmethM, -, -, -, -, -, -, hsigM⟩ := Cond.codeWith_spec hcode
  have hstatic : methM.isStatic = true := Cond.static_spec hnamed hmethM hstat
  obtain ⟨kP, hkP, -⟩ := className_of_methodNamed hnamed
  have hinitP : kP.init = .initialized := Cond.initialized_spec (findClass_of_methodNamed hnamed) hkP hinit
  obtain ⟨vm₁, X₁, hstep₁⟩ := X.invokestatic hexec hown hlink hnamed hmethM hstatic hkP hinitP hy (g := g) hg (argsL := argsL) (rest := rest) (hlen _ hsigM) hstack hdg
  obtain ⟨v, B, X', hpost, hsteps⟩ := hK m meth c ⟨T.setVm vm₁, locs, cells, slots⟩ { g with stack := rest } (.invokestatic index) mk argsL.toArray X₁ hg hsize hdg hW (X₁.named hnamed) (hpre vm₁ X₁.warmed)
  exact ⟨v, vm₁, B, X₁.warmed, X', hpost, fun target h => hstep₁ _ fun acts => by rw [doInvoke_state]; exact hsteps.trans h⟩
theorem vx_runSW {y : MethodName} {bytes cc : ByteArray} {maxL nL mc ms n index : Nat} {ret : Option FieldType} {hh : List (Nat × Nat × Nat × Nat)} {ws : List Cond} {rm : Room} {Pc : Array Value → State → Prop} {Qc : Array Value → State → Outcome → State → Prop} {free : Addr → Prop} {Ts : List Cond} {own : String} {As rest : List Value} {g : JFrame}
    (S : CallFix p m c cc nL s args Ts own) (hM : Met l y ws rm Pc Qc mc ms free) (cw : vx_CSW R s args own index y bytes maxL ret hh ws rm mc ms n) (hp : PreS s H Pc As)
    (hg : g.method = m) (hn : As.length = n) (hsize : g.locals.size = nL) (hstack : g.stack = As.reverse ++ rest) (hW : 2 * g.monitorRoom + (rest.map fun v => v.category).sum ≤ 8) (hdg : decode cc g.pc = .ok (.invokestatic index, 3)) (hf : cells + mc ≤ R.cells ∧ slots + ms ≤ R.slots) :
    va_Run p l e R s m args below meth c H locs cells slots mc ms g rest (Qc As.toArray) (free) := by
  obtain ⟨⟨hrc, hrs, hfr, hlo, hws, hcw⟩, hcode, hini, hy, hlen, hl, hstt⟩ := cw
  have hK : Back l R p e below s args y 3 8 (PreOf R mc ms Pc) (PostOf Qc mc ms free) := va_backW (hh := hh) (bytes := bytes) (maxL := maxL) (ret := ret) hM hp.1 hrc hrs hfr hlo hws hcw (fun a' U hW => word_at hW (Or.inl (by first | rfl | simp [Cond.onTables, Cond.keeps, Cond.steady])) hini)
  obtain ⟨hx, hb, hml, ho, -⟩ := S
  intro T hT X
  obtain ⟨v, vm₁, ⟨U', l2, c2, s2⟩, hW₁, X', ⟨g', mk, t, L, e1, e2, hq, h1, hL, h2, h3⟩, st⟩ := vx_callSW X hx (hh := hh) (bytes := bytes) (maxL := maxL) (ret := ret) ho hl hstt hini hcode hy hK hg (hsize.trans hml.symm) (argsL := As) (rest := rest) (fun sig h => hn.trans (hlen sig h)) hstack hW (by rw [hb]; exact hdg)
    (fun vm₁ hW₁ => ⟨hf.1, hf.2, hp.2 (T.setVm vm₁) hT hW₁⟩)
  dsimp only [Pt.U, Pt.locs, Pt.cells, Pt.slots] at X' e1 e2 h1 h2 h3 st
  subst h1; subst h2; subst h3
  exact ⟨v, (T.setVm vm₁).calling g' mk As.toArray, t, U', L, hT, X', hL, e1, e2, hq, st⟩
/-- not caught here, past rows that name other classes: it goes on to the caller -/
theorem vx_outP {p : Program} {l : Launch} {e : Env} {R : Room} {s : State} {m : MethodId} {args : Array Value} {below : List Frame} {meth : Method} {c : Code} {H : Heap} {locs : List Loc} {cells slots : Nat} {free : Addr → Prop} {ls : Array Slot} {rest : List Value} {Qc : Array Value → State → Outcome → State → Prop} {XC : String → State → State → Prop}
    {pc : Nat} {own E : String} {ce : Cell} {q : Addr} {mc ms : Nat} (hown : s.vm.findClass own = some m.cls) (hlocks : meth.locks = false)
    (hpass : ∀ z ∈ c.exceptionTable.toList, covers z pc = false ∨ (z.catchType ≠ 0 ∧ ∃ nm : String, (Cond.classLink own z.catchType nm).before args s = true ∧ va_Nc E nm s)) (hcell : H[q]? = some ce) (hv : ce.vm = .none) (hcl : s.vm.findClass E = some ce.cls)
    (hx : ∀ t : State, t.heap = H → s.vm.Alike t.vm → XC E s t) (hf : ∀ z ∈ locs, free z.base) (hc : cells ≤ mc) (hs : slots ≤ ms) :
    vx_W p l e R s m args below meth c H locs cells slots (vx_MQ below Qc XC args s mc ms free) (F0 m pc ls rest) q := by
  intro T hT X
  have hpl : e.platform.magicAccessors = ({} : Platform).magicAccessors := by rw [X.admits.platform]
  obtain ⟨vm', hW', X', st⟩ := X.outThrough hlocks q (g := F0 m pc ls rest) rfl rfl rfl (cell := ce) (by rw [hT]; exact hcell) (by rw [hv]; rfl)
    (by obtain ⟨k9, h9, -⟩ := Vm.findClass_spec hcl; exact ⟨k9, h9⟩) (fun z hz => by
      rcases hpass z hz with h | ⟨hz0, nm, hl1, hn1⟩
      · exact Or.inl h
      · obtain ⟨c6, hc6, hcl6⟩ := Cond.classLink_spec hown hl1 e.platform hpl
        obtain ⟨a8, b8, h1, h2, h3⟩ := hn1
        cases Option.some.inj (h1.symm.trans hcl)
        cases Option.some.inj (h2.symm.trans hc6)
        exact Or.inr ⟨hz0, _, hcl6, h3⟩)
  obtain ⟨g₀, hfr⟩ := X'.frames_eq
  have hcell9 : ((T.setVm vm').setFrames (.throwing q :: below)).heap[q]? = some ce := by
    show T.heap[q]? = some ce
    rw [hT]; exact hcell
  have hend : Ended ((T.setVm vm').setFrames (.throwing q :: below)) below (.threw q) := State.frames_setFrames _ (State.cur_lt_of_frames hfr)
  refine ⟨(T.setVm vm').setFrames (.throwing q :: below), ?_, .threw q, X'.here.running, hend, Or.inr ⟨q, rfl, E, ce, locs, hx _ hT (X'.ends _).1.alike, hcell9, hv, hcl, (X'.ends _).1, (X'.ends _).2.mono hc hs, hf⟩⟩
  rw [X.pushThrowing_eq]
  exact st
/-- a thing of a world lies in the heap -/
theorem vx_lt {D : va_G} {cl : List vw_C} {ws : va_W} {H1 : Heap} (h : va_P D cl ws H1) {k : Nat} {q : Nat × va_E} (hk : ws[k]? = some q) : q.1 < H1.size := (h k q hk).lt
end VXS
/-! ===== END ===== -/
/-! ===== BEGIN methods with a table of their own: called by a name, returning or throwing ===== -/
section VXH
/-! vx_backW, vx_callVX, vx_callSX, vx_callVW, vx_runVW, vx_runVX, vx_runSX, vx_ofWH follow the same proofs as their sisters above (Free/Laws.lean, Shelf42/LK1.lean); vx_outP calls Shelf42/NT130.lean (outThrough). -/
section
variable {l : Launch} {R : Room} {p : Program} {e : Env} {below : List Frame} {s : State} {sargs : Array Value} {y : MethodName} {len W9 : Nat}
theorem vx_backW {ws : List Cond} {rm : Room} {Pc : Array Value → State → Prop} {Qc : Array Value → State → Outcome → State → Prop} {XC : String → State → State → Prop} {mc ms : Nat} {free : Addr → Prop} {bytes : ByteArray} {maxL : Nat} {ret : Option FieldType} {hh : List (Nat × Nat × Nat × Nat)}
    (hM : vx_Met l y ws rm Pc Qc XC mc ms free) (hblind : FrameBlind Pc) (hrc : rm.cells = mc) (hrs : rm.slots = ms)
    (hframes : rm.frames + 1 ≤ R.frames) (hlocals : W9 + (maxL + 11) + rm.locals ≤ R.locals)
    (hws : ∀ w ∈ ws, ∀ a' U, s.WarmedH U.vm → w.before a' U = true) (hcode : Cond.codeWith y bytes maxL ret hh ∈ ws) (hinit : ∀ a' U, s.WarmedH U.vm → (Cond.initialized y.cls).before a' U = true) :
    vx_Back l R p e below s sargs y len W9 (PreOf R mc ms Pc) (PostOf Qc mc ms free) (vx_Post XC mc ms free) := by
  intro m meth c A g ig mk a X hg hsize hdg hW hn hp
  have h1 : (headSpec ws rm).pre.before a A.U = true := atoms_intro fun w hw => hws w hw _ _ X.warmed
  have h2 : (Cond.codeWith y bytes maxL ret hh).before a A.U = true := hws _ hcode _ _ X.warmed
  have h3 : (Cond.initialized y.cls).before a A.U = true := hinit _ _ X.warmed
  have h4 : A.cells + (headSpec ws rm).room.cells ≤ R.cells := by rw [show (headSpec ws rm).room.cells = mc from hrc]; exact hp.1
  have h5 : A.slots + (headSpec ws rm).room.slots ≤ R.slots := by rw [show (headSpec ws rm).room.slots = ms from hrs]; exact hp.2.1
  have hPc : Pc a (A.U.calling g mk a) := hblind _ _ _ _ hp.2.2
  obtain ⟨U, Ls, c0, s0⟩ := A
  dsimp only [Pt.U, Pt.locs, Pt.cells, Pt.slots] at h1 h2 h3 h4 h5 X hn hPc ⊢
  obtain ⟨m9, methY, cY, hn9, hmY, hcY, -, hlY, -⟩ := Cond.codeWith_spec h2
  cases Option.some.inj (hn9.symm.trans hn)
  obtain ⟨kY, hkY, -⟩ := className_of_methodNamed hn
  have hinitY : kY.init = .initialized := Cond.initialized_spec (findClass_of_methodNamed hn) hkY h3
  have h : At U g.method c below := by rw [hg]; exact X.here
  have hlocals9 : W9 + (maxL + 11) + (headSpec ws rm).room.locals ≤ R.locals := hlocals
  have happ : (headSpec ws rm).appliesLoose y e.platform (U.calling g mk a) = true :=
    Spec.appliesLoose_calling (g := g) h hdg hn hkY hinitY
      (X.room_calling (g := g) (R' := (headSpec ws rm).room) hsize hmY hcY hframes (by rw [hlY]; omega) h4 h5) h1
  obtain ⟨mid, hmid⟩ := h.above
  have hfr : (U.setTop g).frames = (.java g :: mid) ++ below := by rw [State.frames_setTop' g h.top, hmid]; rfl
  obtain ⟨o, s₂, hsteps, -, hend, hq⟩ := Steps.callFree hM p X.admits X.cas X.clock (acts := []) hfr happ hPc trivial
  have hq' : vx_Q Qc XC mc ms free a (U.calling g mk a) o s₂ := hq
  rw [State.frames_setTop' g h.top] at hend
  obtain ⟨g₀, hg0⟩ := Option.isSome_iff_exists.mp h.top
  obtain ⟨r, hr⟩ := State.topJava?_eq_some.mp hg0
  have hr' : (({ U with heap := s₂.heap, slotsUsed := s₂.slotsUsed } : State).setVm s₂.vm).frames = .java g₀ :: r := hr
  rcases hq' with ⟨hqc, L, hfe, hL⟩ | ⟨q, rfl, E, ce, L, hx, hce, hcv, hcl, hW₂, hsm, hL⟩
  · obtain ⟨⟨v, rfl⟩, hW₂, e2, q2, q3, q4, q5, q6⟩ := id hfe
    have e3 : s₂ = ({ (U.calling g mk a).setFrames s₂.frames with heap := s₂.heap, slotsUsed := s₂.slotsUsed } : State).setVm s₂.vm := by
      have : s₂ = ({ s₂ with vm := (U.calling g mk a).vm } : State).setVm s₂.vm := rfl
      rw [e2] at this
      exact this
    obtain ⟨c₂, i₂, len₂, hc₂, hd₂, hf₂⟩ := hend
    have hW' : U.WarmedH s₂.vm := hW₂
    have hcc : c₂ = c := by
      have h1 : s₂.code? g.method = U.code? g.method := by
        rw [State.code?_eq, State.code?_eq, hW'.alike.method?]
      exact Option.some.inj (hc₂.symm.trans (h1.trans h.code))
    subst hcc
    have hlen : len₂ = len := by rw [hdg] at hd₂; cases hd₂; rfl
    subst hlen
    have hs₂ : s₂ = (({ U with heap := s₂.heap, slotsUsed := s₂.slotsUsed } : State).setVm s₂.vm).setTop { g with pc := g.pc + len₂, stack := v.toList ++ g.stack } := by
      refine e3.trans ?_
      rw [hf₂, State.calling_eq h.top, State.setFrames_setFrames, State.setTop_of_frames _ hr', hr]
      rfl
    have hsame : U.sameButNew ({ U with heap := s₂.heap, slotsUsed := s₂.slotsUsed } : State) L mc ms := by
      refine ⟨?_, q2, q3, q4, q5, q6⟩
      obtain ⟨t, ht, -⟩ := State.frames_cons hr
      show ({ U with heap := s₂.heap, slotsUsed := s₂.slotsUsed } : State) = { U.setFrames U.frames with heap := s₂.heap, slotsUsed := s₂.slotsUsed }
      rw [State.setFrames_self ht]
    subst hg
    refine Or.inl ⟨v, ⟨(({ U with heap := s₂.heap, slotsUsed := s₂.slotsUsed } : State).setVm s₂.vm), Ls ++ L, c0 + mc, s0 + ms⟩,
      ⟨X.admits, X.cas, X.clock, X.frames, X.room, X.hears, X.method, X.code, (X.here.setHeapUsed s₂.heap s₂.slotsUsed).setVm hW'.alike, X.tail, State.WarmedH.trans X.warmed hW', X.limits, X.bytes, X.same.trans (hsame.setVm s.vm)⟩,
      ⟨g, mk, s₂, L, rfl, rfl, hqc, rfl, hL, rfl, rfl⟩, ?_⟩
    show Steps p.tables e below _ ((({ U with heap := s₂.heap, slotsUsed := s₂.slotsUsed } : State).setVm s₂.vm).setTop { g with pc := g.pc + len₂, stack := v.toList ++ g.stack })
    rw [← hs₂]
    exact hsteps
  · obtain ⟨e2, q2, q3, q4, q5, q6⟩ := id hsm
    have e3 : s₂ = ({ (U.calling g mk a).setFrames s₂.frames with heap := s₂.heap, slotsUsed := s₂.slotsUsed } : State).setVm s₂.vm := by
      have : s₂ = ({ s₂ with vm := (U.calling g mk a).vm } : State).setVm s₂.vm := rfl
      rw [e2] at this
      exact this
    have hf₂ : s₂.frames = .throwing q :: .java g :: U.frames.tail := hend
    have hW' : U.WarmedH s₂.vm := hW₂
    have hs₂ : s₂ = ((({ U with heap := s₂.heap, slotsUsed := s₂.slotsUsed } : State).setVm s₂.vm).setTop g).pushFrame (.throwing q) := by
      refine e3.trans ?_
      rw [hf₂, State.calling_eq h.top, State.setFrames_setFrames, State.pushFrame, State.frames_setTop _ hr', State.setTop_of_frames _ hr', State.setFrames_setFrames, hr]
      rfl
    have hsame : U.sameButNew ({ U with heap := s₂.heap, slotsUsed := s₂.slotsUsed } : State) L mc ms := by
      refine ⟨?_, q2, q3, q4, q5, q6⟩
      obtain ⟨t, ht, -⟩ := State.frames_cons hr
      show ({ U with heap := s₂.heap, slotsUsed := s₂.slotsUsed } : State) = { U.setFrames U.frames with heap := s₂.heap, slotsUsed := s₂.slotsUsed }
      rw [State.setFrames_self ht]
    subst hg
    refine Or.inr ⟨q, ⟨(({ U with heap := s₂.heap, slotsUsed := s₂.slotsUsed } : State).setVm s₂.vm), Ls ++ L, c0 + mc, s0 + ms⟩,
      ⟨X.admits, X.cas, X.clock, X.frames, X.room, X.hears, X.method, X.code, (X.here.setHeapUsed s₂.heap s₂.slotsUsed).setVm hW'.alike, X.tail, State.WarmedH.trans X.warmed hW', X.limits, X.bytes, X.same.trans (hsame.setVm s.vm)⟩,
      ⟨g, mk, s₂, L, E, ce, rfl, rfl, hx, hce, hcv, hcl, rfl, hL, rfl, rfl⟩, ?_⟩
    show Steps p.tables e below _ (((({ U with heap := s₂.heap, slotsUsed := s₂.slotsUsed } : State).setVm s₂.vm).setTop g).pushFrame (.throwing q))
    rw [← hs₂]
    exact hsteps
end
variable {p : Program} {l : Launch} {e : Env} {R : Room} {s : State} {m : MethodId} {args : Array Value} {below : List Frame} {meth : Method} {c : Code} {T : State} {H : Heap} {locs : List Loc} {cells slots : Nat}
theorem vx_callVX (X : Stand p l e R s m args below meth c T locs cells slots) (hexec : p.tables.exec = Jvm.exec) {own C : String} {index : Nat} {y : MethodName} {bytes : ByteArray} {maxL : Nat} {ret : Option FieldType} {hh : List (Nat × Nat × Nat × Nat)}
    (hown : s.vm.findClass own = some m.cls) (hlink : (Cond.methodLink own index y).before args s = true) (hinst : (Cond.instanceMethod y).before args s = true) (hsel : (Cond.selects C y y).before args s = true)
    (hcode : (Cond.codeWith y bytes maxL ret hh).before args s = true) (hy : y.cls ≠ "java/lang/invoke/MethodHandle" ∧ y.cls ≠ "java/lang/invoke/VarHandle")
    {W9 : Nat} {Pre : Pt → Array Value → Prop} {Post : Pt → Array Value → Option Value → Pt → Prop} {PostX : Pt → Array Value → Addr → Pt → Prop} (hK : vx_Back l R p e below s args y 3 W9 Pre Post PostX)
    {b : Addr} {cellB : Cell} (hcell : T.heap[b]? = some cellB) (hobj : cellB.vm.isStatics = false) (hcls : s.vm.findClass C = some cellB.cls)
    {g : JFrame} (hg : g.method = m) (hsize : g.locals.size = c.maxLocals) {argsL rest : List Value} (hlen : ∀ sig, parseMethodDescriptor y.desc = some sig → argsL.length = sig.parameters.length)
    (hstack : g.stack = argsL.reverse ++ .ref b :: rest) (hW : 2 * g.monitorRoom + (rest.map fun v => v.category).sum ≤ W9) (hdg : decode c.code g.pc = .ok (.invokevirtual index, 3))
    (hpre : ∀ vm₁, s.WarmedH vm₁ → Pre ⟨T.setVm vm₁, locs, cells, slots⟩ (Value.ref b :: argsL).toArray) :
    (∃ (v : Option Value) (vm₁ : Vm) (B : Pt), s.WarmedH vm₁ ∧ Stand p l e R s m args below meth c B.U B.locs B.cells B.slots ∧ Post ⟨T.setVm vm₁, locs, cells, slots⟩ (Value.ref b :: argsL).toArray v B ∧
      ∀ target, Steps p.tables e below (B.U.setTop { g with pc := g.pc + 3, stack := v.toList ++ rest }) target → Steps p.tables e below (T.setTop g) target) ∨
    (∃ (q : Addr) (vm₁ : Vm) (B : Pt), s.WarmedH vm₁ ∧ Stand p l e R s m args below meth c B.U B.locs B.cells B.slots ∧ PostX ⟨T.setVm vm₁, locs, cells, slots⟩ (Value.ref b :: argsL).toArray q B ∧
      Steps p.tables e below (T.setTop g) ((B.U.setTop { g with stack := rest }).pushFrame (.throwing q))) := by
  obtain ⟨mk, methM, hnamed, hmethM, hstM, habM⟩ := Cond.instanceMethod_spec hinst
  obtain ⟨m8, methM', cM, hn8, hmethM', -, -, -, -, -, -, hsigM⟩ := Cond.codeWith_spec hcode
  cases Option.some.inj (hn8.symm.trans hnamed)
  cases hmethM.symm.trans hmethM'
  obtain ⟨c2, r2, m2, q1, q2, q3, q4, kP, hkP, hkPi⟩ := Cond.selects_spec hsel
  cases hcls.symm.trans q1
  cases (State.methodFound?_of_named hnamed hy).symm.trans q2
  cases hnamed.symm.trans q3
  have hselP : selectMethod e.platform s.vm cellB.cls mk = .method mk := by rw [Launch.admits_selectMethod X.admits]; exact q4
  obtain ⟨vm₁, X₁, hstep₁⟩ := X.invokevirtual hexec hown hlink hnamed hmethM hstM hkP hkPi hy (a := b) (cell := cellB) hcell
    (fun z h => by rw [h] at hobj; cases hobj) hselP hmethM habM hkP hkPi (g := g) hg (argsL := argsL) (rest := rest) (hlen _ hsigM) hstack hdg
  rcases hK m meth c ⟨T.setVm vm₁, locs, cells, slots⟩ { g with stack := rest } (.invokevirtual index) mk (Value.ref b :: argsL).toArray X₁ hg hsize hdg hW (X₁.named hnamed) (hpre vm₁ X₁.warmed) with ⟨v, B, X', hpost, hsteps⟩ | ⟨q, B, X', hpost, hsteps⟩
  · exact Or.inl ⟨v, vm₁, B, X₁.warmed, X', hpost, fun target h => hstep₁ _ fun acts => by rw [doInvoke_state]; exact hsteps.trans h⟩
  · exact Or.inr ⟨q, vm₁, B, X₁.warmed, X', hpost, hstep₁ _ fun acts => by rw [doInvoke_state]; exact hsteps⟩
theorem vx_callSX (X : Stand p l e R s m args below meth c T locs cells slots) (hexec : p.tables.exec = Jvm.exec) {own : String} {index : Nat} {y : MethodName} {bytes : ByteArray} {maxL : Nat} {ret : Option FieldType} {hh : List (Nat × Nat × Nat × Nat)}
    (hown : s.vm.findClass own = some m.cls) (hlink : (Cond.methodLink own index y).before args s = true) (hstat : (Cond.static y).before args s = true) (hinit : (Cond.initialized y.cls).before args s = true)
    (hcode : (Cond.codeWith y bytes maxL ret hh).before args s = true) (hy : y.cls ≠ "java/lang/invoke/MethodHandle" ∧ y.cls ≠ "java/lang/invoke/VarHandle")
    {W9 : Nat} {Pre : Pt → Array Value → Prop} {Post : Pt → Array Value → Option Value → Pt → Prop} {PostX : Pt → Array Value → Addr → Pt → Prop} (hK : vx_Back l R p e below s args y 3 W9 Pre Post PostX)
    {g : JFrame} (hg : g.method = m) (hsize : g.locals.size = c.maxLocals) {argsL rest : List Value} (hlen : ∀ sig, parseMethodDescriptor y.desc = some sig → argsL.length = sig.parameters.length)
    (hstack : g.stack = argsL.reverse ++ rest) (hW : 2 * g.monitorRoom + (rest.map fun v => v.category).sum ≤ W9) (hdg : decode c.code g.pc = .ok (.invokestatic index, 3))
    (hpre : ∀ vm₁, s.WarmedH vm₁ → Pre ⟨T.setVm vm₁, locs, cells, slots⟩ argsL.toArray) :
    (∃ (v : Option Value) (vm₁ : Vm) (B : Pt), s.WarmedH vm₁ ∧ Stand p l e R s m args below meth c B.U B.locs B.cells B.slots ∧ Post ⟨T.setVm vm₁, locs, cells, slots⟩ argsL.toArray v B ∧
      ∀ target, Steps p.tables e below (B.U.setTop { g with pc := g.pc + 3, stack := v.toList ++ rest }) target → Steps p.tables e below (T.setTop g) target) ∨
    (∃ (q : Addr) (vm₁ : Vm) (B : Pt), s.WarmedH vm₁ ∧ Stand p l e R s m args below meth c B.U B.locs B.cells B.slots ∧ PostX ⟨T.setVm vm₁, locs, cells, slots⟩ argsL.toArray q B ∧
      Steps p.tables e below (T.setTop g) ((B.U.setTop { g with stack := rest }).pushFrame (.throwing q))) := by
  obtain ⟨mk, methM, cM, hnamed, hmethM, -, -, -, -, -, -, hsigM⟩ := Cond.codeWith_spec hcode
  have hstatic : methM.isStatic = true := Cond.static_spec hnamed hmethM hstat
  obtain ⟨kP, hkP, -⟩ := className_of_methodNamed hnamed
  have hinitP : kP.init = .initialized := Cond.initialized_spec (findClass_of_methodNamed hnamed) hkP hinit
  obtain ⟨vm₁, X₁, hstep₁⟩ := X.invokestatic hexec hown hlink hnamed hmethM hstatic hkP hinitP hy (g := g) hg (argsL := argsL) (rest := rest) (hlen _ hsigM) hstack hdg
  rcases hK m meth c ⟨T.setVm vm₁, locs, cells, slots⟩ { g with stack := rest } (.invokestatic index) mk argsL.toArray X₁ hg hsize hdg hW (X₁.named hnamed) (hpre vm₁ X₁.warmed) with ⟨v, B, X', hpost, hsteps⟩ | ⟨q, B, X', hpost, hsteps⟩
  · exact Or.inl ⟨v, vm₁, B, X₁.warmed, X', hpost, fun target h => hstep₁ _ fun acts => by rw [doInvoke_state]; exact hsteps.trans h⟩
  · exact Or.inr ⟨q, vm₁, B, X₁.warmed, X', hpost, hstep₁ _ fun acts => by rw [doInvoke_state]; exact hsteps⟩
theorem vx_callVW (X : Stand p l e R s m args below meth c T locs cells slots) (hexec : p.tables.exec = Jvm.exec) {own C : String} {index : Nat} {y : MethodName} {bytes : ByteArray} {maxL : Nat} {ret : Option FieldType} {hh : List (Nat × Nat × Nat × Nat)}
    (hown : s.vm.findClass own = some m.cls) (hlink : (Cond.methodLink own index y).before args s = true) (hinst : (Cond.instanceMethod y).before args s = true) (hsel : (Cond.selects C y y).before args s = true)
    (hcode : (Cond.codeWith y bytes maxL ret hh).before args s = true) (hy : y.cls ≠ "java/lang/invoke/MethodHandle" ∧ y.cls ≠ "java/lang/invoke/VarHandle")
    {W9 : Nat} {Pre : Pt → Array Value → Prop} {Post : Pt → Array Value → Option Value → Pt → Prop} (hK : Back l R p e below s args y 3 W9 Pre Post)
    {b : Addr} {cellB : Cell} (hcell : T.heap[b]? = some cellB) (hobj : cellB.vm.isStatics = false) (hcls : s.vm.findClass C = some cellB.cls)
    {g : JFrame} (hg : g.method = m) (hsize : g.locals.size = c.maxLocals) {argsL rest : List Value} (hlen : ∀ sig, parseMethodDescriptor y.desc = some sig → argsL.length = sig.parameters.length)
    (hstack : g.stack = argsL.reverse ++ .ref b :: rest) (hW : 2 * g.monitorRoom + (rest.map fun v => v.category).sum ≤ W9) (hdg : decode c.code g.pc = .ok (.invokevirtual index, 3))
    (hpre : ∀ vm₁, s.WarmedH vm₁ → Pre ⟨T.setVm vm₁, locs, cells, slots⟩ (Value.ref b :: argsL).toArray) :
    ∃ (v : Option Value) (vm₁ : Vm) (B : Pt), s.WarmedH vm₁ ∧ Stand p l e R s m args below meth c B.U B.locs B.cells B.slots ∧ Post ⟨T.setVm vm₁, locs, cells, slots⟩ (Value.ref b :: argsL).toArray v B ∧
      ∀ target, Steps p.tables e below (B.U.setTop { g with pc := g.pc + 3, stack := v.toList ++ rest }) target → Steps p.tables e below (T.setTop g) target := by
  obtain ⟨mk, methM, hnamed, hmethM, hstM, habM⟩ := Cond.instanceMethod_spec hinst
  obtain ⟨m8, methM', cM, hn8, hmethM', -, -, -, -, -, -, hsigM⟩ := Cond.codeWith_spec hcode
  cases Option.some.inj (hn8.symm.trans hnamed)
  cases hmethM.symm.trans hmethM'
  obtain ⟨c2, r2, m2, q1, q2, q3, q4, kP, hkP, hkPi⟩ := Cond.selects_spec hsel
  cases hcls.symm.trans q1
  cases (State.methodFound?_of_named hnamed hy).symm.trans q2
  cases hnamed.symm.trans q3
  have hselP : selectMethod e.platform s.vm cellB.cls mk = .method mk := by rw [Launch.admits_selectMethod X.admits]; exact q4
  obtain ⟨vm₁, X₁, hstep₁⟩ := X.invokevirtual hexec hown hlink hnamed hmethM hstM hkP hkPi hy (a := b) (cell := cellB) hcell
    (fun z h => by rw [h] at hobj; cases hobj) hselP hmethM habM hkP hkPi (g := g) hg (argsL := argsL) (rest := rest) (hlen _ hsigM) hstack hdg
  obtain ⟨v, B, X', hpost, hsteps⟩ := hK m meth c ⟨T.setVm vm₁, locs, cells, slots⟩ { g with stack := rest } (.invokevirtual index) mk (Value.ref b :: argsL).toArray X₁ hg hsize hdg hW (X₁.named hnamed) (hpre vm₁ X₁.warmed)
  exact ⟨v, vm₁, B, X₁.warmed, X', hpost, fun target h => hstep₁ _ fun acts => by rw [doInvoke_state]; exact hsteps.trans h⟩
abbrev vx_CVW (R : Room) (s : State) (args : Array Value) (own C : String) (index : Nat) (y : MethodName) (bytes : ByteArray) (maxL : Nat) (ret : Option FieldType) (hh : List (Nat × Nat × Nat × Nat)) (ws : List Cond) (rm : Room) (mc ms n : Nat) : Prop :=
  (rm.cells = mc ∧ rm.slots = ms ∧ rm.frames + 1 ≤ R.frames ∧ 8 + (maxL + 11) + rm.locals ≤ R.locals ∧ (∀ w ∈ ws, ∀ (a' : Array Value) (U : State), s.WarmedH U.vm → w.before a' U = true) ∧ Cond.codeWith y bytes maxL ret hh ∈ ws) ∧
  (Cond.codeWith y bytes maxL ret hh).before args s = true ∧ (Cond.initialized y.cls).before args s = true ∧ (y.cls ≠ "java/lang/invoke/MethodHandle" ∧ y.cls ≠ "java/lang/invoke/VarHandle") ∧
  (∀ sig, parseMethodDescriptor y.desc = some sig → n = sig.parameters.length) ∧ (Cond.methodLink own index y).before args s = true ∧ (Cond.instanceMethod y).before args s = true ∧ (Cond.selects C y y).before args s = true
theorem vx_cwVW {own C : String} {index maxL mc ms : Nat} {y : MethodName} {bytes : ByteArray} {ret : Option FieldType} {hh : List (Nat × Nat × Nat × Nat)} {Ts ws ws' : List Cond} {rm : Room} (n : Nat) (ht : ∀ w ∈ Ts, w.before args s = true) (hT : GoodIn Ts (wsV own index C y ws)) (hw : ws = Cond.codeWith y bytes maxL ret hh :: ws') (hrc : rm.cells = mc) (hrs : rm.slots = ms)
    (hd : y.cls = C ∧ y.cls ≠ "java/lang/invoke/MethodHandle" ∧ y.cls ≠ "java/lang/invoke/VarHandle" ∧ (parseMethodDescriptor y.desc).map (fun d => d.parameters.length) = some n) (hR : rm.frames + 1 ≤ R.frames ∧ 8 + (maxL + 11) + rm.locals ≤ R.locals) :
    vx_CVW R s args own C index y bytes maxL ret hh ws rm mc ms n := by
  obtain ⟨hC, hd⟩ := hd
  subst hC
  have ok : ∀ w ∈ wsV own index y.cls y ws, w.before args s = true := fun w h => ht w (hT w h).1
  have hG : GoodIn Ts ws := fun w h => hT w (by unfold wsV; exact List.mem_append_right _ h)
  have hc : Cond.codeWith y bytes maxL ret hh ∈ ws := by rw [hw]; exact List.mem_cons_self
  refine ⟨⟨hrc, hrs, hR.1, hR.2, pay_in ht hG, hc⟩, ht _ (hG _ hc).1, ok _ (by simp [wsV]), ⟨hd.1, hd.2.1⟩, fun sig h => ?_, ok _ (by simp [wsV]), ok _ (by simp [wsV]), ok _ (by simp [wsV])⟩
  have h2 := hd.2.2
  rw [h] at h2
  exact (Option.some.inj h2).symm
theorem vx_runVW {y : MethodName} {bytes cc : ByteArray} {maxL nL mc ms n index : Nat} {ret : Option FieldType} {hh : List (Nat × Nat × Nat × Nat)} {ws : List Cond} {rm : Room} {Pc : Array Value → State → Prop} {Qc : Array Value → State → Outcome → State → Prop} {free : Addr → Prop} {Ts : List Cond} {own C : String} {b : Addr} {As rest : List Value} {g : JFrame}
    (S : CallFix p m c cc nL s args Ts own) (hM : Met l y ws rm Pc Qc mc ms free) (cw : vx_CVW R s args own C index y bytes maxL ret hh ws rm mc ms n) (hp : PreV s H C b Pc As)
    (hg : g.method = m) (hn : As.length = n) (hsize : g.locals.size = nL) (hstack : g.stack = As.reverse ++ .ref b :: rest) (hW : 2 * g.monitorRoom + (rest.map fun v => v.category).sum ≤ 8) (hdg : decode cc g.pc = .ok (.invokevirtual index, 3)) (hf : cells + mc ≤ R.cells ∧ slots + ms ≤ R.slots) :
    va_Run p l e R s m args below meth c H locs cells slots mc ms g rest (Qc (Value.ref b :: As).toArray) free := by
  obtain ⟨⟨hrc, hrs, hfr, hlo, hws, hcw⟩, hcode, hini, hy, hlen, hl, hin, hse⟩ := cw
  have hK : Back l R p e below s args y 3 8 (PreOf R mc ms Pc) (PostOf Qc mc ms free) := va_backW (hh := hh) (bytes := bytes) (maxL := maxL) (ret := ret) hM hp.1 hrc hrs hfr hlo hws hcw (fun a' U hW => word_at hW (Or.inl (by first | rfl | simp [Cond.onTables, Cond.keeps, Cond.steady])) hini)
  obtain ⟨hx, hb, hml, ho, -⟩ := S
  obtain ⟨-, ⟨cellB, hcB, hoB, hclB⟩, hPc⟩ := hp
  intro T hT X
  obtain ⟨v, vm₁, ⟨U', l2, c2, s2⟩, hW₁, X', ⟨g', mk, t, L, e1, e2, hq, h1, hL, h2, h3⟩, st⟩ := vx_callVW X hx (C := C) (hh := hh) (bytes := bytes) (maxL := maxL) (ret := ret) ho hl hin hse hcode hy hK (by rw [hT]; exact hcB) hoB hclB hg (hsize.trans hml.symm) (argsL := As) (rest := rest) (fun sig h => hn.trans (hlen sig h)) hstack hW (by rw [hb]; exact hdg)
    (fun vm₁ hW₁ => ⟨hf.1, hf.2, hPc (T.setVm vm₁) hT hW₁⟩)
  dsimp only [Pt.U, Pt.locs, Pt.cells, Pt.slots] at X' e1 e2 h1 h2 h3 st
  subst h1; subst h2; subst h3
  exact ⟨v, (T.setVm vm₁).calling g' mk (Value.ref b :: As).toArray, t, U', L, hT, X', hL, e1, e2, hq, st⟩
section
variable {y : MethodName} {bytes cc : ByteArray} {maxL nL mc ms n index : Nat} {ret : Option FieldType} {ws : List Cond} {rm : Room} {Pc : Array Value → State → Prop} {Qc : Array Value → State → Outcome → State → Prop} {XC : String → State → State → Prop} {free : Addr → Prop} {Ts : List Cond} {own C : String} {b : Addr} {As rest : List Value} {g : JFrame}
theorem vx_runVX {hh : List (Nat × Nat × Nat × Nat)} (S : CallFix p m c cc nL s args Ts own) (hM : vx_Met l y ws rm Pc Qc XC mc ms free) (cw : vx_CVW R s args own C index y bytes maxL ret hh ws rm mc ms n) (hp : PreV s H C b Pc As)
    (hg : g.method = m) (hn : As.length = n) (hsize : g.locals.size = nL) (hstack : g.stack = As.reverse ++ .ref b :: rest) (hW : 2 * g.monitorRoom + (rest.map fun v => v.category).sum ≤ 8) (hdg : decode cc g.pc = .ok (.invokevirtual index, 3)) (hf : cells + mc ≤ R.cells ∧ slots + ms ≤ R.slots) :
    vx_Run p l e R s m args below meth c H locs cells slots mc ms g rest (Qc (Value.ref b :: As).toArray) XC free := by
  obtain ⟨⟨hrc, hrs, hfr, hlo, hws, hcw⟩, hcode, hini, hy, hlen, hl, hin, hse⟩ := cw
  have hK : vx_Back l R p e below s args y 3 8 (PreOf R mc ms Pc) (PostOf Qc mc ms free) (vx_Post XC mc ms free) := vx_backW (hh := hh) (bytes := bytes) (maxL := maxL) (ret := ret) hM hp.1 hrc hrs hfr hlo hws hcw (fun a' U hW => word_at hW (Or.inl (by first | rfl | simp [Cond.onTables, Cond.keeps, Cond.steady])) hini)
  obtain ⟨hx, hb, hml, ho, -⟩ := S
  obtain ⟨-, ⟨cellB, hcB, hoB, hclB⟩, hPc⟩ := hp
  intro T hT X
  rcases vx_callVX X hx (C := C) (hh := hh) (bytes := bytes) (maxL := maxL) (ret := ret) ho hl hin hse hcode hy hK (by rw [hT]; exact hcB) hoB hclB hg (hsize.trans hml.symm) (argsL := As) (rest := rest) (fun sig h => hn.trans (hlen sig h)) hstack hW (by rw [hb]; exact hdg)
    (fun vm₁ hW₁ => ⟨hf.1, hf.2, hPc (T.setVm vm₁) hT hW₁⟩) with ⟨v, vm₁, ⟨U', l2, c2, s2⟩, hW₁, X', ⟨g', mk, t, L, e1, e2, hq, h1, hL, h2, h3⟩, st⟩ | ⟨q, vm₁, ⟨U', l2, c2, s2⟩, hW₁, X', ⟨g', mk, t, L, E, ce, e1, e2, hq, hce, hcv, hcl, h1, hL, h2, h3⟩, st⟩
  · dsimp only [Pt.U, Pt.locs, Pt.cells, Pt.slots] at X' e1 e2 h1 h2 h3 st
    subst h1; subst h2; subst h3
    exact Or.inl ⟨v, (T.setVm vm₁).calling g' mk (Value.ref b :: As).toArray, t, U', L, hT, X', hL, e1, e2, hq, st⟩
  · dsimp only [Pt.U, Pt.locs, Pt.cells, Pt.slots] at X' e1 e2 h1 h2 h3 st hcl
    subst h1; subst h2; subst h3
    exact Or.inr ⟨q, (T.setVm vm₁).calling g' mk (Value.ref b :: As).toArray, t, U', L, E, ce, hT, X', hL, e1, e2, hq, hce, hcv, vx_cls hW₁ hcl, st⟩
theorem vx_runSX {hh : List (Nat × Nat × Nat × Nat)} (S : CallFix p m c cc nL s args Ts own) (hM : vx_Met l y ws rm Pc Qc XC mc ms free) (cw : vx_CSW R s args own index y bytes maxL ret hh ws rm mc ms n) (hp : PreS s H Pc As)
    (hg : g.method = m) (hn : As.length = n) (hsize : g.locals.size = nL) (hstack : g.stack = As.reverse ++ rest) (hW : 2 * g.monitorRoom + (rest.map fun v => v.category).sum ≤ 8) (hdg : decode cc g.pc = .ok (.invokestatic index, 3)) (hf : cells + mc ≤ R.cells ∧ slots + ms ≤ R.slots) :
    vx_Run p l e R s m args below meth c H locs cells slots mc ms g rest (Qc As.toArray) XC free := by
  obtain ⟨⟨hrc, hrs, hfr, hlo, hws, hcw⟩, hcode, hini, hy, hlen, hl, hstt⟩ := cw
  have hK : vx_Back l R p e below s args y 3 8 (PreOf R mc ms Pc) (PostOf Qc mc ms free) (vx_Post XC mc ms free) := vx_backW (hh := hh) (bytes := bytes) (maxL := maxL) (ret := ret) hM hp.1 hrc hrs hfr hlo hws hcw (fun a' U hW => word_at hW (Or.inl (by first | rfl | simp [Cond.onTables, Cond.keeps, Cond.steady])) hini)
  obtain ⟨hx, hb, hml, ho, -⟩ := S
  intro T hT X
  rcases vx_callSX X hx (hh := hh) (bytes := bytes) (maxL := maxL) (ret := ret) ho hl hstt hini hcode hy hK hg (hsize.trans hml.symm) (argsL := As) (rest := rest) (fun sig h => hn.trans (hlen sig h)) hstack hW (by rw [hb]; exact hdg)
    (fun vm₁ hW₁ => ⟨hf.1, hf.2, hp.2 (T.setVm vm₁) hT hW₁⟩) with ⟨v, vm₁, ⟨U', l2, c2, s2⟩, hW₁, X', ⟨g', mk, t, L, e1, e2, hq, h1, hL, h2, h3⟩, st⟩ | ⟨q, vm₁, ⟨U', l2, c2, s2⟩, hW₁, X', ⟨g', mk, t, L, E, ce, e1, e2, hq, hce, hcv, hcl, h1, hL, h2, h3⟩, st⟩
  · dsimp only [Pt.U, Pt.locs, Pt.cells, Pt.slots] at X' e1 e2 h1 h2 h3 st
    subst h1; subst h2; subst h3
    exact Or.inl ⟨v, (T.setVm vm₁).calling g' mk As.toArray, t, U', L, hT, X', hL, e1, e2, hq, st⟩
  · dsimp only [Pt.U, Pt.locs, Pt.cells, Pt.slots] at X' e1 e2 h1 h2 h3 st hcl
    subst h1; subst h2; subst h3
    exact Or.inr ⟨q, (T.setVm vm₁).calling g' mk As.toArray, t, U', L, E, ce, hT, X', hL, e1, e2, hq, hce, hcv, vx_cls hW₁ hcl, st⟩
end
end VXH
theorem vx_ofWH {l : Launch} {y : MethodName} {ws ws' : List Cond} {rm : Room} {Pc : Array Value → State → Prop} {Qc : Array Value → State → Outcome → State → Prop} {XC : String → State → State → Prop} {mc ms : Nat} {free : Addr → Prop} {cc : ByteArray} {maxL : Nat} {ret : Option FieldType} {hh : List (Nat × Nat × Nat × Nat)}
    (hy : plainName y.cls = true) (hw : ws = Cond.codeWith y cc maxL ret hh :: ws')
    (body : ∀ p e s m args below meth c s₁, BodyLoose p l y (headSpec ws rm) cc maxL ret e s m args below meth c s₁ → c.maxLocals = maxL → Pc args s →
      W p l e (headSpec ws rm).room s m args below meth c s.heap [] 0 0 (vx_MQ below Qc XC args s mc ms free) (entryFrame m args maxL)) : vx_Met l y ws rm Pc Qc XC mc ms free := by
  refine MetFree.of_bodyS (code := cc) (maxLocals := maxL) (ret := ret) hy ?_ ?_
  · intro args s m h hn
    obtain ⟨m9, meth, c, hn9, h1, h2, h3, h4, -, h5, h6, -⟩ := Cond.codeWith_spec (atoms_spec (ws := ws) h _ (by rw [hw]; exact List.mem_cons_self))
    cases hn.symm.trans hn9
    exact ⟨meth, c, h1, h2, h3, h4, h5, h6⟩
  · intro p e s m args below meth c s₁ B hml hP _
    have hh0 : s₁.heap = s.heap := by rw [B.state]; rfl
    obtain ⟨t, a1, o, b1, b2, b3⟩ := body p e s m args below meth c s₁ B hml hP s₁ hh0 (Stand.of_body B)
    exact ⟨t, o, a1, b1, b2, b3⟩
/-! ===== END ===== -/
/-! ===== BEGIN what the machine throws by itself, no traces kept ===== -/
section VXM
set_option maxHeartbeats 1000000 in
/-- the machine throws cls with the message text, no traces kept: from its note over the frame g to 'throwing' over the same frame (follows the proofs of Stand.vmThrowsMessage, Shelf/KitTracedVmS.lean, and Stand.throwsMessageColdBareV, StandMessageColdV.lean, without the step out of the frame) -/
theorem vx_vmAt {p : Program} {l : Launch} {e : Env} {R : Room} {s : State} {m₀ : MethodId} {args : Array Value} {below : List Frame} {meth : Method} {c : Code} {W : State} {locs : List Loc} {cells slots : Nat}
    (X : Stand p l e R s m₀ args below meth c W locs cells slots) (hexec : p.tables.exec = Jvm.exec) (htr : e.platform.stackTraces = false) {cls : String} {names : List String} {text : String}
    (hcls : Bundle.fit cls = true) (hnames : ∀ n ∈ names, Bundle.fit n = true) (hsoe : (cls == "java/lang/StackOverflowError") = false) (hoom : (cls == "java/lang/OutOfMemoryError") = false)
    (h : ∀ a ∈ Bundle.messageArmAtoms cls names, a.before args s = true)
    (hlocs : ∀ x ∈ locs, ∀ cell, s.heap[x.base]? = some cell → cell.vm.isStatics = false)
    (htext : (text == notModelled) = false) (hlimit : ¬ (stringBytes (stringToUtf16 text)).size > e.platform.arrayLengthLimit) (hheap : ¬ (stringBytes (stringToUtf16 text)).size * componentBytes .byte > e.platform.maxHeapBytes)
    {g : JFrame} (hg : g.method = m₀) (hsize : g.locals.size = c.maxLocals)
    (hRframes : names.length + 4 < R.frames) (hRlocals : 2 * g.monitorRoom + (g.stack.map fun v => v.category).sum + 10240 ≤ R.locals) (hshort : 13 * names.length + 55 ≤ 10240)
    (hRcells : cells + 3 ≤ R.cells) (hRslots : slots + ((stringBytes (stringToUtf16 text)).size + 4 + 6) ≤ R.slots) (hlocks : meth.locks = false) :
    ∃ (S : State) (q : Addr) (ce : Cell), (∀ target, Steps p.tables e below ((S.setTop g).pushFrame (.throwing q)) target → Steps p.tables e below ((W.setTop g).pushFrame (.throwNew cls (some text) none)) target) ∧
      Stand p l e R s m₀ args below meth c S locs (cells + 3) (slots + ((stringBytes (stringToUtf16 text)).size + 4 + 6)) ∧ S.heap[q]? = some ce ∧ s.vm.findClass cls = some ce.cls ∧ ce.vm = .none := by
  have howns : e.platform.frameOwnsMonitors = true := by rw [X.admits.platform]
  have hfin : e.platform.finalization = false := by rw [X.admits.platform]
  have hpl : e.platform.magicAccessors = ({} : Platform).magicAccessors := by rw [X.admits.platform]
  have a : ∀ x, x ∈ Bundle.messageArmAtoms cls names → x.holds args s none s [] = true := fun x hx => h x hx
  obtain ⟨T, Z0, L, -, Y⟩ := ThrowableC.of_atoms (args := args) howns hfin hpl (fun x hx => h x (by simp [Bundle.messageArmAtoms, hx]))
  obtain ⟨Z, M, LZ, LM, hnZ⟩ := Init0T.ofS_atoms (args := args) hpl L Y (fun x hx => h x (by simp [Bundle.messageArmAtoms, hx]))
  obtain ⟨P1, Ps, hlen, L1, hL, hP1m, hlink1, hlink⟩ := Bundle.chainS (args := args) hpl hnZ names cls hcls hnames (fun x hx => h x (by simp [Bundle.messageArmAtoms, hx]))
  obtain ⟨Zs, LZs, hn4, hfitv, hfitc⟩ := StringT.of_atoms (args := args) (fun x hx => h x (by simp [Bundle.messageArmAtoms, hx]))
  have hfound : s.vm.findClass cls = some P1.m.cls := findClass_of_methodNamed hP1m
  obtain ⟨c1, kX, hc1, hk, hord, -, -, hn6⟩ := Cond.instantiable_spec (a (.instantiable cls 6) (by simp [Bundle.messageArmAtoms]))
  cases Option.some.inj (hc1.symm.trans hfound)
  have hinit := Cond.initialized_spec hfound hk (a (.initialized cls) (by simp [Bundle.messageArmAtoms]))
  have hctor : kX.findMethod "<init>" "(Ljava/lang/String;)V" = some P1.m.idx := findMethod_of_methodNamed hP1m hk
  have hsel0 : selectMethod e.platform s.vm P1.m.cls T.fill0 = .method T.fill0 := by
    obtain ⟨c2, r2, m2, q1, q2, q3, q4, -⟩ := Cond.selects_spec (a (.selects cls Bundle.tFill0 Bundle.tFill0) (by simp [Bundle.messageArmAtoms]))
    cases Option.some.inj (q1.symm.trans hfound)
    cases Option.some.inj (q2.symm.trans (State.methodFound?_of_named Y.fill0 (by decide)))
    cases Option.some.inj (q3.symm.trans Y.fill0)
    rw [Launch.admits_selectMethod X.admits]; exact q4
  have hselF : selectMethod e.platform s.vm P1.m.cls T.fill = .method T.fill := by
    obtain ⟨c2, r2, m2, q1, q2, q3, q4, -⟩ := Cond.selects_spec (a (.selects cls Bundle.tFill Bundle.tFill) (by simp [Bundle.messageArmAtoms]))
    cases Option.some.inj (q1.symm.trans hfound)
    cases Option.some.inj (q2.symm.trans (State.methodFound?_of_named Y.fill (by decide)))
    cases Option.some.inj (q3.symm.trans Y.fill)
    rw [Launch.admits_selectMethod X.admits]; exact q4
  obtain ⟨cellS0, hcS0, hiss⟩ := Y.statics
  obtain ⟨u0, hu0⟩ := Cond.staticRefV Y.unassigned L.unassignedStatic L.statics hcS0 hiss (a (.isRef (.static Bundle.tN "UNASSIGNED_STACK" Bundle.steD)) (by simp [Bundle.messageArmAtoms]))
  obtain ⟨sen, hsen⟩ := Cond.staticRefV Y.sentinel L.sentinelStatic L.statics hcS0 hiss (a (.isRef (.static Bundle.tN "SUPPRESSED_SENTINEL" Bundle.listD)) (by simp [Bundle.messageArmAtoms]))
  obtain ⟨ci198, i198, fB, hk198, hg198, ha198, hsB, -, hnB, htB, hffB⟩ := Cond.ownField (t := .object "java/lang/Object") Y.found L.cls (by decide +kernel) (a (.fieldLink Bundle.tN 198 Bundle.tN "backtrace" "Ljava/lang/Object;") (by simp [Bundle.messageArmAtoms])) (a (.lays Bundle.tN Bundle.tN "backtrace" "Ljava/lang/Object;") (by simp [Bundle.messageArmAtoms])) e.platform hpl
  obtain ⟨cellS, hcS', heS, -, hkeep⟩ := X.same.2.2.2.2.2 T.aS cellS0 hcS0
  have hcellS : W.heap[T.aS]? = some cellS := hcS'
  have hout' : ∀ i, (⟨T.aS, i⟩ : Loc) ∉ locs := fun i hmem => by
    have := hlocs _ hmem cellS0 hcS0
    rw [hiss] at this; cases this
  have hknownS : cellS.vm ≠ .unknown := by
    rw [heS]; intro hu
    rw [show cellS0.vm = .unknown from hu] at hiss
    cases hiss
  have hvU : cellS.slots[T.fUnassigned.slot]? = some u0.v := by rw [hkeep _ (hout' _)]; exact hu0
  have hvSen : cellS.slots[T.fSentinel.slot]? = some sen.v := by rw [hkeep _ (hout' _)]; exact hsen
  obtain ⟨iM, hffM⟩ := Y.msg
  obtain ⟨tyC, dC, hdC, hdnC⟩ := Cond.laysAt hfound hk Y.cause (a (.lays cls Bundle.tN "cause" "Ljava/lang/Throwable;") (by simp [Bundle.messageArmAtoms]))
  obtain ⟨tyS, dS, hdS, hdnS⟩ := Cond.laysAt hfound hk Y.stack (a (.lays cls Bundle.tN "stackTrace" Bundle.steD) (by simp [Bundle.messageArmAtoms]))
  obtain ⟨tyP, dP, hdP, hdnP⟩ := Cond.laysAt hfound hk Y.supp (a (.lays cls Bundle.tN "suppressedExceptions" Bundle.listD) (by simp [Bundle.messageArmAtoms]))
  obtain ⟨tyM, dM, hdM, hdnM⟩ := Cond.laysAt hfound hk hffM (a (.lays cls Bundle.tN "detailMessage" "Ljava/lang/String;") (by simp [Bundle.messageArmAtoms]))
  obtain ⟨tyB, dB, hdB, hdnB⟩ := Cond.laysAt hfound hk hffB (a (.lays cls Bundle.tN "backtrace" "Ljava/lang/Object;") (by simp [Bundle.messageArmAtoms]))
  have bC := Cond.laysApart hdB hdC hdnB hdnC (by rw [hnB, Y.causeName]; decide)
  have bS := Cond.laysApart hdB hdS hdnB hdnS (by rw [hnB, Y.stackName]; decide)
  have bP := Cond.laysApart hdB hdP hdnB hdnP (by rw [hnB, Y.suppName]; decide)
  have hbk : ((preparedCellV T.toThrowableT (freshCell P1.m.cls kX) (W.heap.size + 2) u0 sen).withEntry W.cur).slots[fB.slot]? = some .null := by
    have := fresh_default (c := P1.m.cls) tyB
    rw [htB] at this
    simpa [preparedCellV, Cell.setSlot, Cell.withEntry, Array.getElem?_setIfInBounds, bC, bS, bP, bC.symm, bS.symm, bP.symm, defaultValue] using this
  have tkC := Takes.of_laid (v := .ref (W.heap.size + 2)) hk hord tyC (by rw [Y.causeType]; rfl)
  have tkS := Takes.of_laid (v := u0.v) hk hord tyS (by rw [Y.stackType]; exact fits_refV_array _ u0)
  have tkP := Takes.of_laid (v := sen.v) hk hord tyP (by rw [Y.suppType]; exact fits_refV_object _ sen)
  have tkM := Takes.of_laid (v := .ref (W.heap.size + 1)) hk hord tyM (by rw [Y.msgType]; rfl)
  have hskip : SkipFacts T e.platform s (fun u => u) u0 ((preparedCellV T.toThrowableT (freshCell P1.m.cls kX) (W.heap.size + 2) u0 sen).withEntry W.cur) := ⟨{ ci198 := ci198, i198 := i198, fBack := fB }, ⟨hk198, hg198, ha198, hsB⟩, hbk, fun _ _ => rfl⟩
  have h0 : At W g.method c below := by rw [hg]; exact X.here
  obtain ⟨hbeyond, hfreeW⟩ := X.vmMayThrow hsize (.throwNew cls (some text) none) (fun f hf => by cases hf) rfl hRlocals
  have hfr' : W.frames.length + Ps.length + 4 < (e.platform.stackLimits W.me).1 := by have := X.framesAbove hRframes; omega
  have hwd' : (stackUse (.java g :: W.frames.tail)).2 + 13 * Ps.length + 55 ≤ (e.platform.stackLimits W.me).2 := by have := X.stackAbove hsize (K := 13 * Ps.length + 55) (by omega); omega
  have hslots : W.slotsUsed + (stringBytes (stringToUtf16 text)).size + Zs.kS.instanceTypes.size + kX.instanceTypes.size ≤ e.platform.maxSlots := by
    have := X.slotsAbove hRslots
    rw [hn4, hn6]
    omega
  obtain ⟨vm', hW', st⟩ := Steps.vmThrowsMessageColdByV p (s₀ := s) (S := W) (g := g) h0 hexec T L Z LZ M LM X.warmed (t := W.cur) rfl Zs LZs P1 L1 Ps hL hlink1 hlink hsoe hoom hfound hk hinit hord hctor
    (Launch.admits_hotImplicitExceptions X.admits) hbeyond hfreeW htext hlimit hheap (X.cellsAbove hRcells) hslots (hfitv _) (hfitc _)
    (Nn := fun u => u) heapOnly_id (fun _ _ => rfl) (fun _ => rfl) (fun u x y => setCell_twice _ _ _ _) (fun _ => Nat.le_refl _) (cN := ((preparedCellV T.toThrowableT (freshCell P1.m.cls kX) (W.heap.size + 2) u0 sen).withEntry W.cur))
    hsel0 hcellS hknownS hvU tkS (fun _ hu => hu) (fun _ hu => hu) rfl rfl rfl (by simp [preparedCellV, Cell.setSlot, Cell.withEntry]) hskip (fun _ _ hA hW _ hroom _ hrest => L.nativeOff p htr hA hW hroom hrest) hselF hvSen tkC tkP tkM Y.objLocals rfl hfr' hwd'
  rw [plainBareV_eq T.toThrowableT (W.heap.size + 2) u0 sen (.ref (W.heap.size + 1)) W.cur rfl rfl] at st
  obtain ⟨-, -, w3, w4, -, -, -⟩ := withThrown_facts e.platform W Zs text P1.m.cls kX
  have X3 := ((X.pushed (bytesOf Zs.cB (stringToUtf16 text))).pushed (stringAt Zs.cS Zs.kS Zs.fv Zs.fc (stringToUtf16 text) W.heap.size)).pushed (freshCell P1.m.cls kX)
  rw [← withString_eq] at X3
  have X4 := X3.noted hW'
  have ha : (W.heap.size + 2) < ((withThrown W Zs text P1.m.cls kX).setVm vm').heap.size := by show _ < (withThrown W Zs text P1.m.cls kX).heap.size; rw [w3]; omega
  have hcell : ((withThrown W Zs text P1.m.cls kX).setVm vm').heap[(W.heap.size + 2)]? = some (freshCell P1.m.cls kX) := w4
  have X5 := ((((X4.stored hcell T.fCause.slot (.ref (W.heap.size + 2))).storedAgain ha T.fStack.slot u0.v).storedAgain ha T.fSupp.slot sen.v).storedAgain ha T.fStack.slot u0.v).storedAgain ha T.fMsg.slot (.ref (W.heap.size + 1))
  obtain ⟨g₁, hfrM⟩ := X5.frames_eq
  have hU : ((((withThrown W Zs text P1.m.cls kX).setVm vm').setCell (W.heap.size + 2) (plainBareV T.toThrowableT (freshCell P1.m.cls kX) (W.heap.size + 2) u0 sen (.ref (W.heap.size + 1)))).setTop g).pushFrame (.throwing (W.heap.size + 2)) = (((withThrown W Zs text P1.m.cls kX).setVm vm').setCell (W.heap.size + 2) (plainBareV T.toThrowableT (freshCell P1.m.cls kX) (W.heap.size + 2) u0 sen (.ref (W.heap.size + 1)))).setFrames (.throwing (W.heap.size + 2) :: .java g :: below) := by
    rw [State.pushFrame, State.frames_setTop _ hfrM, State.setTop_of_frames _ hfrM, State.setFrames_setFrames]
  have b1 : (bytesOf Zs.cB (stringToUtf16 text)).slots.size = (stringBytes (stringToUtf16 text)).size := by
    rw [(Cell.writeAll_facts _ _).2.2]; simp [bytes0]
  have b2 : (stringAt Zs.cS Zs.kS Zs.fv Zs.fc (stringToUtf16 text) W.heap.size).slots.size = 4 := by simp [string0, Cell.setSlot, hn4]
  have b3 : (freshCell P1.m.cls kX).slots.size = 6 := by simp [hn6]
  rw [b1, b2, b3] at X5
  have e9 : slots + (stringBytes (stringToUtf16 text)).size + 4 + 6 = slots + ((stringBytes (stringToUtf16 text)).size + 4 + 6) := by omega
  rw [e9] at X5
  simp only [List.append_assoc, List.cons_append, List.nil_append] at X5
  refine ⟨((withThrown W Zs text P1.m.cls kX).setVm vm').setCell (W.heap.size + 2) (plainBareV T.toThrowableT (freshCell P1.m.cls kX) (W.heap.size + 2) u0 sen (.ref (W.heap.size + 1))), W.heap.size + 2, _, fun target ht => st _ (by rw [X.tail, ← hU]; exact ht),
    X5.forget (fun y hy => ?_), heapAt_setCell_self _ ha, hfound, rfl⟩
  simp only [List.mem_cons, List.not_mem_nil, or_false] at hy
  have hge : s.heap.size ≤ W.heap.size := X.same.2.1
  rcases hy with rfl | rfl | rfl | rfl | rfl <;> exact Nat.le_trans hge (Nat.le_add_right _ 2)
set_option maxHeartbeats 1000000 in
/-- the machine throws NullPointerException, no traces kept: from its note over the frame g to 'throwing' over the same frame (follows the proof of Stand.vmThrowsNpe, Shelf42/KT2.lean; throwsNpeColdBareVAt, Shelf42/NT91.lean, called) -/
theorem vx_npeAt {p : Program} {l : Launch} {e : Env} {R : Room} {s : State} {m₀ : MethodId} {args : Array Value} {below : List Frame} {meth : Method} {c : Code} {W : State} {locs : List Loc} {cells slots : Nat}
    (X : Stand p l e R s m₀ args below meth c W locs cells slots) (hexec : p.tables.exec = Jvm.exec) (htr : e.platform.stackTraces = false) {n : Nat}
    (h : ∀ a ∈ Bundle.npeArmAtoms n, a.before args s = true)
    (hlocs : ∀ x ∈ locs, ∀ cell, s.heap[x.base]? = some cell → cell.vm.isStatics = false)
    {g : JFrame} (hg : g.method = m₀) (hsize : g.locals.size = c.maxLocals)
    (hRframes : 7 < R.frames) (hRlocals : 2 * g.monitorRoom + (g.stack.map fun v => v.category).sum + 10240 ≤ R.locals)
    (hRcells : cells + 1 ≤ R.cells) (hRslots : slots + n ≤ R.slots) (hlocks : meth.locks = false) :
    ∃ (S : State) (q : Addr) (ce : Cell), (∀ target, Steps p.tables e below ((S.setTop g).pushFrame (.throwing q)) target → Steps p.tables e below ((W.setTop g).pushFrame (.throwNew "java/lang/NullPointerException" none none)) target) ∧
      Stand p l e R s m₀ args below meth c S locs (cells + 1) (slots + n) ∧ S.heap[q]? = some ce ∧ s.vm.findClass "java/lang/NullPointerException" = some ce.cls ∧ ce.vm = .none := by
  have howns : e.platform.frameOwnsMonitors = true := by rw [X.admits.platform]
  have hfin : e.platform.finalization = false := by rw [X.admits.platform]
  have hpl : e.platform.magicAccessors = ({} : Platform).magicAccessors := by rw [X.admits.platform]
  have hpl2 : e.platform.arrayCloneIsPublic = true := by rw [X.admits.platform]
  have a' : ∀ x, x ∈ Bundle.npeArmAtoms n → x.holds args s none s [] = true := fun x hx => h x hx
  obtain ⟨T, Z, L, LZ, Y⟩ := ThrowableC.of_atoms (args := args) howns hfin hpl (fun x hx => h x (by simp [Bundle.npeArmAtoms, hx]))
  obtain ⟨N, LN, hcN, hnNF, hordN, hffS⟩ := NpeC.of_atoms (args := args) hpl hpl2 L Y (fun x hx => h x (by simp [Bundle.npeArmAtoms, hx]))
  obtain ⟨P1, L1, hP1m, hP1s⟩ := PassC.of_atoms (args := args) (s := s) hpl (X := Bundle.nN) (Y := Bundle.rN) (by decide) (by decide) LibCode.NullPointerException.Init0.at_0 LibCode.NullPointerException.Init0.at_1 LibCode.NullPointerException.Init0.at_4 (fun x hx => h x (by simp [Bundle.npeArmAtoms, hx]))
  obtain ⟨PR, LR, hPRm, hPRs⟩ := PassC.of_atoms (args := args) (s := s) hpl (X := Bundle.rN) (Y := Bundle.eN) (by decide) (by decide) LibCode.RuntimeException.Init0.at_0 LibCode.RuntimeException.Init0.at_1 LibCode.RuntimeException.Init0.at_4 (fun x hx => h x (by simp [Bundle.npeArmAtoms, hx]))
  obtain ⟨PE, LEx, hPEm, hPEs⟩ := PassC.of_atoms (args := args) (s := s) hpl (X := Bundle.eN) (Y := Bundle.tN) (by decide) (by decide) LibCode.Exception.Init0.at_0 LibCode.Exception.Init0.at_1 LibCode.Exception.Init0.at_4 (fun x hx => h x (by simp [Bundle.npeArmAtoms, hx]))
  have hfound : s.vm.findClass Bundle.nN = some P1.m.cls := findClass_of_methodNamed hP1m
  have ecls : N.cN = P1.m.cls := Option.some.inj (hcN.symm.trans hfound)
  have hk : s.vm.classes[P1.m.cls]? = some N.kN := by rw [← ecls]; exact LN.cls
  have hinit := Cond.initialized_spec hfound hk (a' (.initialized Bundle.nN) (by simp [Bundle.npeArmAtoms]))
  have hctor : N.kN.findMethod "<init>" "()V" = some P1.m.idx := findMethod_of_methodNamed hP1m hk
  obtain ⟨c1, k1, hc1, hk1, -, -, -, hn⟩ := Cond.instantiable_spec (a' (.instantiable Bundle.nN n) (by simp [Bundle.npeArmAtoms]))
  cases Option.some.inj (hc1.symm.trans hfound)
  cases Option.some.inj (hk1.symm.trans hk)
  have hfsz : (freshCell P1.m.cls N.kN).slots.size = n := by simp [hn]
  have hlink1 : P1.sup = PR.m := Option.some.inj (hP1s.symm.trans hPRm)
  have hlinkR : PR.sup = PE.m := Option.some.inj (hPRs.symm.trans hPEm)
  have hlinkE : PE.sup = Z.m T.toThrowableT := Option.some.inj (hPEs.symm.trans Y.init0)
  have hLs : ∀ P, P ∈ [PR, PE] → P.Links0 e.platform s := fun P hP => by
    simp only [List.mem_cons, List.not_mem_nil, or_false] at hP
    rcases hP with rfl | rfl
    · exact LR
    · exact LEx
  have hsel0 : selectMethod e.platform s.vm P1.m.cls T.fill0 = .method T.fill0 := by
    obtain ⟨c2, r2, m2, q1, q2, q3, q4, -⟩ := Cond.selects_spec (a' (.selects Bundle.nN Bundle.tFill0 Bundle.tFill0) (by simp [Bundle.npeArmAtoms]))
    cases Option.some.inj (q1.symm.trans hfound)
    cases Option.some.inj (q2.symm.trans (State.methodFound?_of_named Y.fill0 (by decide)))
    cases Option.some.inj (q3.symm.trans Y.fill0)
    rw [Launch.admits_selectMethod X.admits]; exact q4
  have hselF : selectMethod e.platform s.vm P1.m.cls T.fill = .method N.fill := by
    obtain ⟨c2, r2, m2, q1, q2, q3, q4, -⟩ := Cond.selects_spec (a' (.selects Bundle.nN Bundle.tFill Bundle.nFill) (by simp [Bundle.npeArmAtoms]))
    cases Option.some.inj (q1.symm.trans hfound)
    cases Option.some.inj (q2.symm.trans (State.methodFound?_of_named Y.fill (by decide)))
    cases Option.some.inj (q3.symm.trans hnNF)
    rw [Launch.admits_selectMethod X.admits]; exact q4
  obtain ⟨cellS0, hcS0, hiss⟩ := Y.statics
  obtain ⟨u0, hu0⟩ := Cond.staticRefV Y.unassigned L.unassignedStatic L.statics hcS0 hiss (a' (.isRef (.static Bundle.tN "UNASSIGNED_STACK" Bundle.steD)) (by simp [Bundle.npeArmAtoms]))
  obtain ⟨sen, hsen⟩ := Cond.staticRefV Y.sentinel L.sentinelStatic L.statics hcS0 hiss (a' (.isRef (.static Bundle.tN "SUPPRESSED_SENTINEL" Bundle.listD)) (by simp [Bundle.npeArmAtoms]))
  obtain ⟨ci198, i198, fB, hk198, hg198, ha198, hsB, -, hnB, htB, hffB⟩ := Cond.ownField (t := .object "java/lang/Object") Y.found L.cls (by decide +kernel) (a' (.fieldLink Bundle.tN 198 Bundle.tN "backtrace" Bundle.objD) (by simp [Bundle.npeArmAtoms])) (a' (.lays Bundle.tN Bundle.tN "backtrace" Bundle.objD) (by simp [Bundle.npeArmAtoms])) e.platform hpl
  obtain ⟨cellS, hcS', heS, -, hkeep⟩ := X.same.2.2.2.2.2 T.aS cellS0 hcS0
  have hcellS : W.heap[T.aS]? = some cellS := hcS'
  have hout' : ∀ i, (⟨T.aS, i⟩ : Loc) ∉ locs := fun i hmem => by
    have := hlocs _ hmem cellS0 hcS0
    rw [hiss] at this; cases this
  have hknownS : cellS.vm ≠ .unknown := by
    rw [heS]; intro hu
    rw [show cellS0.vm = .unknown from hu] at hiss
    cases hiss
  have hvU : cellS.slots[T.fUnassigned.slot]? = some u0.v := by rw [hkeep _ (hout' _)]; exact hu0
  have hvSen : cellS.slots[T.fSentinel.slot]? = some sen.v := by rw [hkeep _ (hout' _)]; exact hsen
  obtain ⟨tyC, dC, hdC, hdnC⟩ := Cond.laysAt hfound hk Y.cause (a' (.lays Bundle.nN Bundle.tN "cause" "Ljava/lang/Throwable;") (by simp [Bundle.npeArmAtoms]))
  obtain ⟨tyS, dS, hdS, hdnS⟩ := Cond.laysAt hfound hk Y.stack (a' (.lays Bundle.nN Bundle.tN "stackTrace" Bundle.steD) (by simp [Bundle.npeArmAtoms]))
  obtain ⟨tyP, dP, hdP, hdnP⟩ := Cond.laysAt hfound hk Y.supp (a' (.lays Bundle.nN Bundle.tN "suppressedExceptions" Bundle.listD) (by simp [Bundle.npeArmAtoms]))
  obtain ⟨tyX, dX, hdX, hdnX⟩ := Cond.laysAt hfound hk hffS (a' (.lays Bundle.nN Bundle.nN "extendedMessageState" "I") (by simp [Bundle.npeArmAtoms, Bundle.npeAtoms]))
  obtain ⟨hnX, htX⟩ := State.fieldFound?_type hffS (t := .int) (by decide +kernel)
  have xC := Cond.laysApart hdC hdX hdnC hdnX (by rw [hnX, Y.causeName]; decide)
  have xS := Cond.laysApart hdS hdX hdnS hdnX (by rw [hnX, Y.stackName]; decide)
  have xP := Cond.laysApart hdP hdX hdnP hdnX (by rw [hnX, Y.suppName]; decide)
  have hv0 : (freshCell P1.m.cls N.kN).slots[N.fState.slot]? = some (.int 0) := by
    have := fresh_default (c := P1.m.cls) tyX
    rw [htX] at this; exact this
  obtain ⟨tyB, dB, hdB, hdnB⟩ := Cond.laysAt hfound hk hffB (a' (.lays Bundle.nN Bundle.tN "backtrace" Bundle.objD) (by simp [Bundle.npeArmAtoms]))
  have bC := Cond.laysApart hdB hdC hdnB hdnC (by rw [hnB, Y.causeName]; decide)
  have bS := Cond.laysApart hdB hdS hdnB hdnS (by rw [hnB, Y.stackName]; decide)
  have bP := Cond.laysApart hdB hdP hdnB hdnP (by rw [hnB, Y.suppName]; decide)
  have bX := Cond.laysApart hdB hdX hdnB hdnX (by rw [hnB, hnX]; decide)
  have hbk : ((npeCell N.toNpeT (preparedCellV T.toThrowableT (freshCell P1.m.cls N.kN) W.heap.size u0 sen) W.cur).withEntry W.cur).slots[fB.slot]? = some .null := by
    have := fresh_default (c := P1.m.cls) tyB
    rw [htB] at this
    simpa [npeCell, preparedCellV, Cell.setSlot, Cell.withEntry, Array.getElem?_setIfInBounds, bC, bS, bP, bX, bC.symm, bS.symm, bP.symm, bX.symm, defaultValue] using this
  have tkC := Takes.of_laid (v := .ref W.heap.size) hk hordN tyC (by rw [Y.causeType]; rfl)
  have tkS := Takes.of_laid (v := u0.v) hk hordN tyS (by rw [Y.stackType]; exact fits_refV_array _ u0)
  have tkP := Takes.of_laid (v := sen.v) hk hordN tyP (by rw [Y.suppType]; exact fits_refV_object _ sen)
  have tkX := Takes.of_laid (v := .int 1) hk hordN tyX (by rw [htX]; rfl)
  have hskip : SkipFacts T e.platform s (fun u => u) u0 ((npeCell N.toNpeT (preparedCellV T.toThrowableT (freshCell P1.m.cls N.kN) W.heap.size u0 sen) W.cur).withEntry W.cur) := ⟨{ ci198 := ci198, i198 := i198, fBack := fB }, ⟨hk198, hg198, ha198, hsB⟩, hbk, fun _ _ => rfl⟩
  obtain ⟨vm', X3, st, -⟩ := X.throwsNpeColdBareVAt hexec hg hsize T L Z LZ N LN P1 L1 [PR, PE] hLs hlink1 ⟨hlinkR, hlinkE, trivial⟩ hfound hk hinit hordN hctor hsel0 hselF hcellS hknownS hvU hvSen
    hv0 xC xS xP tkC tkS tkP tkX Y.objLocals hskip (fun _ _ hA hW _ hroom _ hrest => L.nativeOff p htr hA hW hroom hrest) (by simpa using hRframes) hRlocals (by simp) hRcells (by rw [hn]; exact hRslots)
  have hlt : W.heap.size < ((W.pushCell (freshCell P1.m.cls N.kN)).setVm vm').heap.size := by
    show W.heap.size < (W.pushCell (freshCell P1.m.cls N.kN)).heap.size
    rw [State.heap_size_pushCell]; omega
  rw [hfsz] at X3
  obtain ⟨g₁, hfrM⟩ := X3.frames_eq
  have hU : ((((W.pushCell (freshCell P1.m.cls N.kN)).setVm vm').setCell W.heap.size (npeBareV T.toThrowableT N.toNpeT (freshCell P1.m.cls N.kN) W.heap.size u0 sen)).setTop g).pushFrame (.throwing W.heap.size) = (((W.pushCell (freshCell P1.m.cls N.kN)).setVm vm').setCell W.heap.size (npeBareV T.toThrowableT N.toNpeT (freshCell P1.m.cls N.kN) W.heap.size u0 sen)).setFrames (.throwing W.heap.size :: .java g :: below) := by
    rw [State.pushFrame, State.frames_setTop _ hfrM, State.setTop_of_frames _ hfrM, State.setFrames_setFrames]
  refine ⟨_, W.heap.size, _, fun target ht => st.trans (by rw [← hU]; exact ht), X3.forget (fun y hy => ?_), heapAt_setCell_self _ hlt, hfound, rfl⟩
  simp only [List.mem_cons, List.not_mem_nil, or_false] at hy
  have hge : s.heap.size ≤ W.heap.size := X.same.2.1
  rcases hy with rfl | rfl | rfl | rfl | rfl <;> exact hge
/-- the words of a machine's NullPointerException, but the four that speak of the heap -/
def vx_atN (n : Nat) : List Cond := (Bundle.npeArmAtoms n).filter vx_no
/-- the words of a machine's throw with a message, but the four that speak of the heap -/
def vx_atM (X : String) (names : List String) : List Cond := (Bundle.messageArmAtoms X names).filter vx_no
section
variable {p : Program} {l : Launch} {e : Env} {R : Room} {s : State} {m : MethodId} {args : Array Value} {below : List Frame} {meth : Method} {c : Code} {H : Heap} {locs : List Loc} {cells slots : Nat}
/-- a frame seen from a rebased start, seen from the first start again -/
theorem vx_back9 {T S : State} {R' : Room} {k n : Nat} (X : Stand p l e R s m args below meth c T locs cells slots) (Y : Stand p l e R' ((T.setVm s.vm).setFrames (.invoking m args :: below)) m args below meth c T [] 0 0) (Z : Stand p l e R' ((T.setVm s.vm).setFrames (.invoking m args :: below)) m args below meth c S [] k n) :
    Stand p l e R s m args below meth c S locs (cells + k) (slots + n) := by
  have hW0 : s.WarmedH ((T.setVm s.vm).setFrames (.invoking m args :: below)).vm := State.WarmedH.refl s
  refine { admits := X.admits, cas := X.cas, clock := X.clock, frames := X.frames, room := X.room, hears := X.hears, method := X.method, code := X.code, here := Z.here, tail := Z.tail, warmed := State.WarmedH.trans hW0 Z.warmed, limits := Z.limits.trans (Y.limits.symm.trans X.limits), bytes := Z.bytes.trans (Y.bytes.symm.trans X.bytes), same := ?_ }
  obtain ⟨e1, e2⟩ := Z.same
  rw [State.setFrames_setFrames] at e1
  have h2 : (T.setVm s.vm).sameButNew (S.setVm s.vm) [] k n := ⟨e1, e2⟩
  have h3 := X.same.trans h2
  rw [List.append_nil] at h3
  exact h3
/-- from the machine's note that E is thrown here with this text -/
def vx_Note (p : Program) (l : Launch) (e : Env) (R : Room) (s : State) (m : MethodId) (args : Array Value) (below : List Frame) (meth : Method) (c : Code) (H : Heap) (locs : List Loc) (cells slots : Nat) (Q : State → Prop) (g : JFrame) (E text : String) : Prop :=
  ∀ T : State, T.heap = H → Stand p l e R s m args below meth c T locs cells slots → ∃ t, Steps p.tables e below ((T.setTop g).pushFrame (.throwNew E (some text) none)) t ∧ Q t
theorem vx_vm {pc : Nat} {ls : Array Slot} {rest : List Value} {Q : State → Prop} (hexec : p.tables.exec = Jvm.exec) (hl : l.stackTraces = false) {cls text : String} {names : List String} {nb : Nat} {A : Nat → Prop}
    (hcls : Bundle.fit cls = true) (hnames : ∀ n ∈ names, Bundle.fit n = true) (hsoe : (cls == "java/lang/StackOverflowError") = false) (hoom : (cls == "java/lang/OutOfMemoryError") = false)
    (hat : ∀ w ∈ vx_atM cls names, w.before args s = true) (hgood : ∀ w ∈ vx_atM cls names, vx_ot w = true)
    (hU : vx_Zq Bundle.tN "UNASSIGNED_STACK" Bundle.steD A s s.heap) (hN : vx_Zq Bundle.tN "SUPPRESSED_SENTINEL" Bundle.listD A s s.heap) (hS : va_S A s.heap H locs) (hsize : ls.size = c.maxLocals)
    (htext : (text == notModelled) = false) (hnb : (stringBytes (stringToUtf16 text)).size ≤ nb) (hnb1 : nb ≤ 1000)
    (hRframes : names.length + 4 < R.frames) (hRlocals : (rest.map fun v => v.category).sum + 10240 ≤ R.locals) (hshort : 13 * names.length + 55 ≤ 10240) (hRcells : cells + 3 ≤ R.cells) (hRslots : slots + (nb + 10) ≤ R.slots) (hlocks : meth.locks = false)
    (k : ∀ (H1 : Heap) (q9 : Addr) (ce : Cell), H.size ≤ H1.size → (∀ q : Nat, q < H.size → H1[q]? = H[q]?) → va_S A s.heap H1 locs → H1[q9]? = some ce → ce.vm = .none → s.vm.findClass cls = some ce.cls → vx_W p l e R s m args below meth c H1 locs (cells + 3) (slots + (nb + 10)) Q (F0 m pc ls rest) q9) :
    vx_Note p l e R s m args below meth c H locs cells slots Q (F0 m pc ls rest) cls text := by
  intro T hT X
  have htr : e.platform.stackTraces = false := (show e.platform.stackTraces = l.stackTraces by rw [X.admits.platform]).trans hl
  have Y := vx_rebase X (R' := { frames := R.frames, locals := R.locals, cells := 3, slots := nb + 10 }) (Nat.le_refl _) (Nat.le_refl _) hRcells hRslots
  have hhp : ((T.setVm s.vm).setFrames (.invoking m args :: below)).heap = H := hT
  have hW0 : s.WarmedH ((T.setVm s.vm).setFrames (.invoking m args :: below)).vm := State.WarmedH.refl s
  have hat' : ∀ w ∈ vx_atM cls names, w.before args ((T.setVm s.vm).setFrames (.invoking m args :: below)) = true := fun w hw => vx_ot_at hW0 rfl (hgood w hw) (hat w hw)
  have hU' : vx_Zq Bundle.tN "UNASSIGNED_STACK" Bundle.steD A ((T.setVm s.vm).setFrames (.invoking m args :: below)) ((T.setVm s.vm).setFrames (.invoking m args :: below)).heap := by rw [hhp]; exact vx_Zq.moved hW0.alike (hU.kept hS.2.1)
  have hN' : vx_Zq Bundle.tN "SUPPRESSED_SENTINEL" Bundle.listD A ((T.setVm s.vm).setFrames (.invoking m args :: below)) ((T.setVm s.vm).setFrames (.invoking m args :: below)).heap := by rw [hhp]; exact vx_Zq.moved hW0.alike (hN.kept hS.2.1)
  obtain ⟨S, q, ce, st, Z, hce, hcl', hv⟩ := vx_vmAt Y hexec htr (cls := cls) (names := names) (text := text) hcls hnames hsoe hoom (vx_own hat' (vx_isRefq hU'.1) (vx_isRefq hN'.1) hU'.2.word hN'.2.word) (fun x hx => nomatch hx) htext
    (by rw [Launch.admits_arrayLengthLimit X.admits]; omega) (by rw [Launch.admits_maxHeapBytes X.admits]; simp only [componentBytes]; omega)
    (g := F0 m pc ls rest) rfl hsize hRframes (by show 2 * 0 + (rest.map fun v => v.category).sum + 10240 ≤ R.locals; omega) hshort (by show 0 + 3 ≤ 3; omega) (by show 0 + (_ + 4 + 6) ≤ nb + 10; omega) hlocks
  obtain ⟨f1, f2⟩ := vx_frame Z.same
  have f1' : H.size ≤ S.heap.size := by rw [← hT]; exact f1
  have f2' : ∀ q : Nat, q < H.size → S.heap[q]? = H[q]? := fun q hq => by
    rw [← hT]
    exact f2 q (by rw [← hT] at hq; exact hq) (fun z hz => nomatch hz)
  have X5 := vx_back9 X Y Z
  have X6 : Stand p l e R s m args below meth c S locs (cells + 3) (slots + (nb + 10)) := { X5 with same := X5.same.mono (by omega) (by omega) }
  obtain ⟨t, a1, b1⟩ := k S.heap q ce f1' f2' ⟨Nat.le_trans hS.1 f1', fun q h1 h2 => (f2' q (Nat.lt_of_lt_of_le h1 hS.1)).trans (hS.2.1 q h1 h2), hS.2.2⟩ hce hv hcl' S rfl X6
  exact ⟨t, st t a1, b1⟩
/-- from the machine's note that NullPointerException is thrown here -/
def vx_NoteN (p : Program) (l : Launch) (e : Env) (R : Room) (s : State) (m : MethodId) (args : Array Value) (below : List Frame) (meth : Method) (c : Code) (H : Heap) (locs : List Loc) (cells slots : Nat) (Q : State → Prop) (g : JFrame) : Prop :=
  ∀ T : State, T.heap = H → Stand p l e R s m args below meth c T locs cells slots → ∃ t, Steps p.tables e below ((T.setTop g).pushFrame (.throwNew "java/lang/NullPointerException" none none)) t ∧ Q t
theorem vx_npe {pc : Nat} {ls : Array Slot} {rest : List Value} {Q : State → Prop} (hexec : p.tables.exec = Jvm.exec) (hl : l.stackTraces = false) {nb : Nat} {A : Nat → Prop}
    (hat : ∀ w ∈ vx_atN nb, w.before args s = true) (hgood : ∀ w ∈ vx_atN nb, vx_ot w = true)
    (hU : vx_Zq Bundle.tN "UNASSIGNED_STACK" Bundle.steD A s s.heap) (hN : vx_Zq Bundle.tN "SUPPRESSED_SENTINEL" Bundle.listD A s s.heap) (hS : va_S A s.heap H locs) (hsize : ls.size = c.maxLocals)
    (hRframes : 7 < R.frames) (hRlocals : (rest.map fun v => v.category).sum + 10240 ≤ R.locals) (hRcells : cells + 1 ≤ R.cells) (hRslots : slots + nb ≤ R.slots) (hlocks : meth.locks = false)
    (k : ∀ (H1 : Heap) (q9 : Addr) (ce : Cell), H.size ≤ H1.size → (∀ q : Nat, q < H.size → H1[q]? = H[q]?) → va_S A s.heap H1 locs → H1[q9]? = some ce → ce.vm = .none → s.vm.findClass "java/lang/NullPointerException" = some ce.cls → vx_W p l e R s m args below meth c H1 locs (cells + 1) (slots + nb) Q (F0 m pc ls rest) q9) :
    vx_NoteN p l e R s m args below meth c H locs cells slots Q (F0 m pc ls rest) := by
  intro T hT X
  have htr : e.platform.stackTraces = false := (show e.platform.stackTraces = l.stackTraces by rw [X.admits.platform]).trans hl
  have Y := vx_rebase X (R' := { frames := R.frames, locals := R.locals, cells := 1, slots := nb }) (Nat.le_refl _) (Nat.le_refl _) hRcells hRslots
  have hhp : ((T.setVm s.vm).setFrames (.invoking m args :: below)).heap = H := hT
  have hW0 : s.WarmedH ((T.setVm s.vm).setFrames (.invoking m args :: below)).vm := State.WarmedH.refl s
  have hat' : ∀ w ∈ vx_atN nb, w.before args ((T.setVm s.vm).setFrames (.invoking m args :: below)) = true := fun w hw => vx_ot_at hW0 rfl (hgood w hw) (hat w hw)
  have hU' : vx_Zq Bundle.tN "UNASSIGNED_STACK" Bundle.steD A ((T.setVm s.vm).setFrames (.invoking m args :: below)) ((T.setVm s.vm).setFrames (.invoking m args :: below)).heap := by rw [hhp]; exact vx_Zq.moved hW0.alike (hU.kept hS.2.1)
  have hN' : vx_Zq Bundle.tN "SUPPRESSED_SENTINEL" Bundle.listD A ((T.setVm s.vm).setFrames (.invoking m args :: below)) ((T.setVm s.vm).setFrames (.invoking m args :: below)).heap := by rw [hhp]; exact vx_Zq.moved hW0.alike (hN.kept hS.2.1)
  obtain ⟨S, q, ce, st, Z, hce, hcl', hv⟩ := vx_npeAt Y hexec htr (n := nb) (vx_own hat' (vx_isRefq hU'.1) (vx_isRefq hN'.1) hU'.2.word hN'.2.word) (fun x hx => nomatch hx)
    (g := F0 m pc ls rest) rfl hsize hRframes (by show 2 * 0 + (rest.map fun v => v.category).sum + 10240 ≤ R.locals; omega) (by show 0 + 1 ≤ 1; omega) (by show 0 + nb ≤ nb; omega) hlocks
  obtain ⟨f1, f2⟩ := vx_frame Z.same
  have f1' : H.size ≤ S.heap.size := by rw [← hT]; exact f1
  have f2' : ∀ q : Nat, q < H.size → S.heap[q]? = H[q]? := fun q hq => by
    rw [← hT]
    exact f2 q (by rw [← hT] at hq; exact hq) (fun z hz => nomatch hz)
  have X5 := vx_back9 X Y Z
  have X6 : Stand p l e R s m args below meth c S locs (cells + 1) (slots + nb) := { X5 with same := X5.same.mono (by omega) (by omega) }
  obtain ⟨t, a1, b1⟩ := k S.heap q ce f1' f2' ⟨Nat.le_trans hS.1 f1', fun q h1 h2 => (f2' q (Nat.lt_of_lt_of_le h1 hS.1)).trans (hS.2.1 q h1 h2), hS.2.2⟩ hce hv hcl' S rfl X6
  exact ⟨t, st t a1, b1⟩
variable {Q : State → Prop} {cc : ByteArray} {pc : Nat} {ls : Array Slot} {rest : List Value}
theorem vx_idivZ (hexec : p.tables.exec = Jvm.exec) (hb : c.code = cc) {a b : Int32} (h0 : b = 0) (d : decode cc pc = .ok (.idiv, 1)) (k : vx_Note p l e R s m args below meth c H locs cells slots Q (F0 m pc ls rest) "java/lang/ArithmeticException" "/ by zero") :
    W p l e R s m args below meth c H locs cells slots Q (F0 m pc ls (.int b :: .int a :: rest)) := by
  intro T hT X
  obtain ⟨t, st, q⟩ := k T hT X
  exact ⟨t, X.idivZero hexec (g := F0 m pc ls (.int b :: .int a :: rest)) rfl (a := a) (rest := rest) (by rw [h0]) (by rw [hb]; exact d) t st, q⟩
theorem vx_iremZ (hexec : p.tables.exec = Jvm.exec) (hb : c.code = cc) {a b : Int32} (h0 : b = 0) (d : decode cc pc = .ok (.irem, 1)) (k : vx_Note p l e R s m args below meth c H locs cells slots Q (F0 m pc ls rest) "java/lang/ArithmeticException" "/ by zero") :
    W p l e R s m args below meth c H locs cells slots Q (F0 m pc ls (.int b :: .int a :: rest)) := by
  intro T hT X
  obtain ⟨t, st, q⟩ := k T hT X
  exact ⟨t, X.iremZero hexec (g := F0 m pc ls (.int b :: .int a :: rest)) rfl (a := a) (rest := rest) (by rw [h0]) (by rw [hb]; exact d) t st, q⟩
theorem vx_ldivZ (hexec : p.tables.exec = Jvm.exec) (hb : c.code = cc) {a b : Int64} (h0 : b = 0) (d : decode cc pc = .ok (.ldiv, 1)) (k : vx_Note p l e R s m args below meth c H locs cells slots Q (F0 m pc ls rest) "java/lang/ArithmeticException" "/ by zero") :
    W p l e R s m args below meth c H locs cells slots Q (F0 m pc ls (.long b :: .long a :: rest)) := by
  intro T hT X
  obtain ⟨t, st, q⟩ := k T hT X
  exact ⟨t, X.ldivZero hexec (g := F0 m pc ls (.long b :: .long a :: rest)) rfl (a := a) (rest := rest) (by rw [h0]) (by rw [hb]; exact d) t st, q⟩
theorem vx_lremZ (hexec : p.tables.exec = Jvm.exec) (hb : c.code = cc) {a b : Int64} (h0 : b = 0) (d : decode cc pc = .ok (.lrem, 1)) (k : vx_Note p l e R s m args below meth c H locs cells slots Q (F0 m pc ls rest) "java/lang/ArithmeticException" "/ by zero") :
    W p l e R s m args below meth c H locs cells slots Q (F0 m pc ls (.long b :: .long a :: rest)) := by
  intro T hT X
  obtain ⟨t, st, q⟩ := k T hT X
  exact ⟨t, X.lremZero hexec (g := F0 m pc ls (.long b :: .long a :: rest)) rfl (a := a) (rest := rest) (by rw [h0]) (by rw [hb]; exact d) t st, q⟩
theorem vx_ialdZ {D : va_G} {cl : List vw_C} {ws : va_W} {tys : List (ClassId × FieldType)} {a : Nat} (hexec : p.tables.exec = Jvm.exec) (hb : c.code = cc) (hK : va_K D cl tys s) (hP : va_P D cl ws H) (q0 t0 : Nat) {cA : ClassId} {n : Nat} {f : Nat → Int32} (ha : ws[q0]? = some (a, .inl (cA, n, .inl f))) (ht : tys[t0]? = some (cA, .int)) {i : Int32} (hout : ¬ vp_in i n) (hdg : decode cc pc = .ok (.iaload, 1))
    (k : ∀ tx : String, tx = (toString "Index " ++ toString i ++ toString " out of bounds for length " ++ toString n : String) → vx_Note p l e R s m args below meth c H locs cells slots Q (F0 m pc ls rest) "java/lang/ArrayIndexOutOfBoundsException" tx) : W p l e R s m args below meth c H locs cells slots Q (F0 m pc ls (.int i :: .ref a :: rest)) := by
  intro T hT X
  obtain ⟨t, st, q⟩ := k _ rfl T hT X
  refine ⟨t, ?_, q⟩
  have h1 := X.ialoadOut hexec (by rw [hT]; exact hP q0 _ ha) ((hK.2 t0 _ ht).1 n (fun j => .int (f j))) (j := i) (by show (i < 0 ∨ (arrV _ _ _).slots.size ≤ _); rw [arrV_size]; exact Classical.byContradiction hout) (g := F0 m pc ls (.int i :: .ref a :: rest)) rfl (rest := rest) rfl (by rw [hb]; exact hdg) t
  simp only [arrV_size] at h1
  exact h1 st
theorem vx_iastZ {D : va_G} {cl : List vw_C} {ws : va_W} {tys : List (ClassId × FieldType)} {a : Nat} (hexec : p.tables.exec = Jvm.exec) (hb : c.code = cc) (hK : va_K D cl tys s) (hP : va_P D cl ws H) (q0 t0 : Nat) {cA : ClassId} {n : Nat} {f : Nat → Int32} (ha : ws[q0]? = some (a, .inl (cA, n, .inl f))) (ht : tys[t0]? = some (cA, .int)) {i : Int32} {x : Int32} (hout : ¬ vp_in i n) (hdg : decode cc pc = .ok (.iastore, 1))
    (k : ∀ tx : String, tx = (toString "Index " ++ toString i ++ toString " out of bounds for length " ++ toString n : String) → vx_Note p l e R s m args below meth c H locs cells slots Q (F0 m pc ls rest) "java/lang/ArrayIndexOutOfBoundsException" tx) : W p l e R s m args below meth c H locs cells slots Q (F0 m pc ls (.int x :: .int i :: .ref a :: rest)) := by
  intro T hT X
  obtain ⟨t, st, q⟩ := k _ rfl T hT X
  refine ⟨t, ?_, q⟩
  have h1 := X.iastoreOut hexec (by rw [hT]; exact hP q0 _ ha) ((hK.2 t0 _ ht).1 n (fun j => .int (f j))) (j := i) (by show (i < 0 ∨ (arrV _ _ _).slots.size ≤ _); rw [arrV_size]; exact Classical.byContradiction hout) (g := F0 m pc ls (.int x :: .int i :: .ref a :: rest)) rfl (rest := rest) rfl (by rw [hb]; exact hdg) t
  simp only [arrV_size] at h1
  exact h1 st
theorem vx_baldZ {D : va_G} {cl : List vw_C} {ws : va_W} {tys : List (ClassId × FieldType)} {a : Nat} (hexec : p.tables.exec = Jvm.exec) (hb : c.code = cc) (hK : va_K D cl tys s) (hP : va_P D cl ws H) (q0 t0 : Nat) {cA : ClassId} {n : Nat} {f : Nat → Int32} (ha : ws[q0]? = some (a, .inl (cA, n, .inl f))) (ht : tys[t0]? = some (cA, .byte)) {i : Int32} (hout : ¬ vp_in i n) (hdg : decode cc pc = .ok (.baload, 1))
    (k : ∀ tx : String, tx = (toString "Index " ++ toString i ++ toString " out of bounds for length " ++ toString n : String) → vx_Note p l e R s m args below meth c H locs cells slots Q (F0 m pc ls rest) "java/lang/ArrayIndexOutOfBoundsException" tx) : W p l e R s m args below meth c H locs cells slots Q (F0 m pc ls (.int i :: .ref a :: rest)) := by
  intro T hT X
  obtain ⟨t, st, q⟩ := k _ rfl T hT X
  refine ⟨t, ?_, q⟩
  have h1 := X.baloadOut hexec (by rw [hT]; exact hP q0 _ ha) ((hK.2 t0 _ ht).1 n (fun j => .int (f j))) (j := i) (by show (i < 0 ∨ (arrV _ _ _).slots.size ≤ _); rw [arrV_size]; exact Classical.byContradiction hout) (g := F0 m pc ls (.int i :: .ref a :: rest)) rfl (rest := rest) rfl (by rw [hb]; exact hdg) t
  simp only [arrV_size] at h1
  exact h1 st
theorem vx_bastZ {D : va_G} {cl : List vw_C} {ws : va_W} {tys : List (ClassId × FieldType)} {a : Nat} (hexec : p.tables.exec = Jvm.exec) (hb : c.code = cc) (hK : va_K D cl tys s) (hP : va_P D cl ws H) (q0 t0 : Nat) {cA : ClassId} {n : Nat} {f : Nat → Int32} (ha : ws[q0]? = some (a, .inl (cA, n, .inl f))) (ht : tys[t0]? = some (cA, .byte)) {i : Int32} {x : Int32} (hout : ¬ vp_in i n) (hdg : decode cc pc = .ok (.bastore, 1))
    (k : ∀ tx : String, tx = (toString "Index " ++ toString i ++ toString " out of bounds for length " ++ toString n : String) → vx_Note p l e R s m args below meth c H locs cells slots Q (F0 m pc ls rest) "java/lang/ArrayIndexOutOfBoundsException" tx) : W p l e R s m args below meth c H locs cells slots Q (F0 m pc ls (.int x :: .int i :: .ref a :: rest)) := by
  intro T hT X
  obtain ⟨t, st, q⟩ := k _ rfl T hT X
  refine ⟨t, ?_, q⟩
  have h1 := X.bastoreOut hexec (by rw [hT]; exact hP q0 _ ha) ((hK.2 t0 _ ht).1 n (fun j => .int (f j))) (j := i) (by show (i < 0 ∨ (arrV _ _ _).slots.size ≤ _); rw [arrV_size]; exact Classical.byContradiction hout) (g := F0 m pc ls (.int x :: .int i :: .ref a :: rest)) rfl (rest := rest) rfl (by rw [hb]; exact hdg) t
  simp only [arrV_size] at h1
  exact h1 st
theorem vx_zaldZ {D : va_G} {cl : List vw_C} {ws : va_W} {tys : List (ClassId × FieldType)} {a : Nat} (hexec : p.tables.exec = Jvm.exec) (hb : c.code = cc) (hK : va_K D cl tys s) (hP : va_P D cl ws H) (q0 t0 : Nat) {cA : ClassId} {n : Nat} {f : Nat → Int32} (ha : ws[q0]? = some (a, .inl (cA, n, .inl f))) (ht : tys[t0]? = some (cA, .boolean)) {i : Int32} (hout : ¬ vp_in i n) (hdg : decode cc pc = .ok (.baload, 1))
    (k : ∀ tx : String, tx = (toString "Index " ++ toString i ++ toString " out of bounds for length " ++ toString n : String) → vx_Note p l e R s m args below meth c H locs cells slots Q (F0 m pc ls rest) "java/lang/ArrayIndexOutOfBoundsException" tx) : W p l e R s m args below meth c H locs cells slots Q (F0 m pc ls (.int i :: .ref a :: rest)) := by
  intro T hT X
  obtain ⟨t, st, q⟩ := k _ rfl T hT X
  refine ⟨t, ?_, q⟩
  have h1 := X.baloadOut hexec (by rw [hT]; exact hP q0 _ ha) ((hK.2 t0 _ ht).1 n (fun j => .int (f j))) (j := i) (by show (i < 0 ∨ (arrV _ _ _).slots.size ≤ _); rw [arrV_size]; exact Classical.byContradiction hout) (g := F0 m pc ls (.int i :: .ref a :: rest)) rfl (rest := rest) rfl (by rw [hb]; exact hdg) t
  simp only [arrV_size] at h1
  exact h1 st
theorem vx_zastZ {D : va_G} {cl : List vw_C} {ws : va_W} {tys : List (ClassId × FieldType)} {a : Nat} (hexec : p.tables.exec = Jvm.exec) (hb : c.code = cc) (hK : va_K D cl tys s) (hP : va_P D cl ws H) (q0 t0 : Nat) {cA : ClassId} {n : Nat} {f : Nat → Int32} (ha : ws[q0]? = some (a, .inl (cA, n, .inl f))) (ht : tys[t0]? = some (cA, .boolean)) {i : Int32} {x : Int32} (hout : ¬ vp_in i n) (hdg : decode cc pc = .ok (.bastore, 1))
    (k : ∀ tx : String, tx = (toString "Index " ++ toString i ++ toString " out of bounds for length " ++ toString n : String) → vx_Note p l e R s m args below meth c H locs cells slots Q (F0 m pc ls rest) "java/lang/ArrayIndexOutOfBoundsException" tx) : W p l e R s m args below meth c H locs cells slots Q (F0 m pc ls (.int x :: .int i :: .ref a :: rest)) := by
  intro T hT X
  obtain ⟨t, st, q⟩ := k _ rfl T hT X
  refine ⟨t, ?_, q⟩
  have h1 := X.bastoreOut hexec (by rw [hT]; exact hP q0 _ ha) ((hK.2 t0 _ ht).1 n (fun j => .int (f j))) (j := i) (by show (i < 0 ∨ (arrV _ _ _).slots.size ≤ _); rw [arrV_size]; exact Classical.byContradiction hout) (g := F0 m pc ls (.int x :: .int i :: .ref a :: rest)) rfl (rest := rest) rfl (by rw [hb]; exact hdg) t
  simp only [arrV_size] at h1
  exact h1 st
theorem vx_caldZ {D : va_G} {cl : List vw_C} {ws : va_W} {tys : List (ClassId × FieldType)} {a : Nat} (hexec : p.tables.exec = Jvm.exec) (hb : c.code = cc) (hK : va_K D cl tys s) (hP : va_P D cl ws H) (q0 t0 : Nat) {cA : ClassId} {n : Nat} {f : Nat → Int32} (ha : ws[q0]? = some (a, .inl (cA, n, .inl f))) (ht : tys[t0]? = some (cA, .char)) {i : Int32} (hout : ¬ vp_in i n) (hdg : decode cc pc = .ok (.caload, 1))
    (k : ∀ tx : String, tx = (toString "Index " ++ toString i ++ toString " out of bounds for length " ++ toString n : String) → vx_Note p l e R s m args below meth c H locs cells slots Q (F0 m pc ls rest) "java/lang/ArrayIndexOutOfBoundsException" tx) : W p l e R s m args below meth c H locs cells slots Q (F0 m pc ls (.int i :: .ref a :: rest)) := by
  intro T hT X
  obtain ⟨t, st, q⟩ := k _ rfl T hT X
  refine ⟨t, ?_, q⟩
  have h1 := X.caloadOut hexec (by rw [hT]; exact hP q0 _ ha) ((hK.2 t0 _ ht).1 n (fun j => .int (f j))) (j := i) (by show (i < 0 ∨ (arrV _ _ _).slots.size ≤ _); rw [arrV_size]; exact Classical.byContradiction hout) (g := F0 m pc ls (.int i :: .ref a :: rest)) rfl (rest := rest) rfl (by rw [hb]; exact hdg) t
  simp only [arrV_size] at h1
  exact h1 st
theorem vx_castZ {D : va_G} {cl : List vw_C} {ws : va_W} {tys : List (ClassId × FieldType)} {a : Nat} (hexec : p.tables.exec = Jvm.exec) (hb : c.code = cc) (hK : va_K D cl tys s) (hP : va_P D cl ws H) (q0 t0 : Nat) {cA : ClassId} {n : Nat} {f : Nat → Int32} (ha : ws[q0]? = some (a, .inl (cA, n, .inl f))) (ht : tys[t0]? = some (cA, .char)) {i : Int32} {x : Int32} (hout : ¬ vp_in i n) (hdg : decode cc pc = .ok (.castore, 1))
    (k : ∀ tx : String, tx = (toString "Index " ++ toString i ++ toString " out of bounds for length " ++ toString n : String) → vx_Note p l e R s m args below meth c H locs cells slots Q (F0 m pc ls rest) "java/lang/ArrayIndexOutOfBoundsException" tx) : W p l e R s m args below meth c H locs cells slots Q (F0 m pc ls (.int x :: .int i :: .ref a :: rest)) := by
  intro T hT X
  obtain ⟨t, st, q⟩ := k _ rfl T hT X
  refine ⟨t, ?_, q⟩
  have h1 := X.castoreOut hexec (by rw [hT]; exact hP q0 _ ha) ((hK.2 t0 _ ht).1 n (fun j => .int (f j))) (j := i) (by show (i < 0 ∨ (arrV _ _ _).slots.size ≤ _); rw [arrV_size]; exact Classical.byContradiction hout) (g := F0 m pc ls (.int x :: .int i :: .ref a :: rest)) rfl (rest := rest) rfl (by rw [hb]; exact hdg) t
  simp only [arrV_size] at h1
  exact h1 st
theorem vx_saldZ {D : va_G} {cl : List vw_C} {ws : va_W} {tys : List (ClassId × FieldType)} {a : Nat} (hexec : p.tables.exec = Jvm.exec) (hb : c.code = cc) (hK : va_K D cl tys s) (hP : va_P D cl ws H) (q0 t0 : Nat) {cA : ClassId} {n : Nat} {f : Nat → Int32} (ha : ws[q0]? = some (a, .inl (cA, n, .inl f))) (ht : tys[t0]? = some (cA, .short)) {i : Int32} (hout : ¬ vp_in i n) (hdg : decode cc pc = .ok (.saload, 1))
    (k : ∀ tx : String, tx = (toString "Index " ++ toString i ++ toString " out of bounds for length " ++ toString n : String) → vx_Note p l e R s m args below meth c H locs cells slots Q (F0 m pc ls rest) "java/lang/ArrayIndexOutOfBoundsException" tx) : W p l e R s m args below meth c H locs cells slots Q (F0 m pc ls (.int i :: .ref a :: rest)) := by
  intro T hT X
  obtain ⟨t, st, q⟩ := k _ rfl T hT X
  refine ⟨t, ?_, q⟩
  have h1 := X.saloadOut hexec (by rw [hT]; exact hP q0 _ ha) ((hK.2 t0 _ ht).1 n (fun j => .int (f j))) (j := i) (by show (i < 0 ∨ (arrV _ _ _).slots.size ≤ _); rw [arrV_size]; exact Classical.byContradiction hout) (g := F0 m pc ls (.int i :: .ref a :: rest)) rfl (rest := rest) rfl (by rw [hb]; exact hdg) t
  simp only [arrV_size] at h1
  exact h1 st
theorem vx_sastZ {D : va_G} {cl : List vw_C} {ws : va_W} {tys : List (ClassId × FieldType)} {a : Nat} (hexec : p.tables.exec = Jvm.exec) (hb : c.code = cc) (hK : va_K D cl tys s) (hP : va_P D cl ws H) (q0 t0 : Nat) {cA : ClassId} {n : Nat} {f : Nat → Int32} (ha : ws[q0]? = some (a, .inl (cA, n, .inl f))) (ht : tys[t0]? = some (cA, .short)) {i : Int32} {x : Int32} (hout : ¬ vp_in i n) (hdg : decode cc pc = .ok (.sastore, 1))
    (k : ∀ tx : String, tx = (toString "Index " ++ toString i ++ toString " out of bounds for length " ++ toString n : String) → vx_Note p l e R s m args below meth c H locs cells slots Q (F0 m pc ls rest) "java/lang/ArrayIndexOutOfBoundsException" tx) : W p l e R s m args below meth c H locs cells slots Q (F0 m pc ls (.int x :: .int i :: .ref a :: rest)) := by
  intro T hT X
  obtain ⟨t, st, q⟩ := k _ rfl T hT X
  refine ⟨t, ?_, q⟩
  have h1 := X.sastoreOut hexec (by rw [hT]; exact hP q0 _ ha) ((hK.2 t0 _ ht).1 n (fun j => .int (f j))) (j := i) (by show (i < 0 ∨ (arrV _ _ _).slots.size ≤ _); rw [arrV_size]; exact Classical.byContradiction hout) (g := F0 m pc ls (.int x :: .int i :: .ref a :: rest)) rfl (rest := rest) rfl (by rw [hb]; exact hdg) t
  simp only [arrV_size] at h1
  exact h1 st
theorem vx_laldZ {D : va_G} {cl : List vw_C} {ws : va_W} {tys : List (ClassId × FieldType)} {a : Nat} (hexec : p.tables.exec = Jvm.exec) (hb : c.code = cc) (hK : va_K D cl tys s) (hP : va_P D cl ws H) (q0 t0 : Nat) {cA : ClassId} {n : Nat} {f : Nat → Int64} (ha : ws[q0]? = some (a, .inl (cA, n, .inr (.inl f)))) (ht : tys[t0]? = some (cA, .long)) {i : Int32} (hout : ¬ vp_in i n) (hdg : decode cc pc = .ok (.laload, 1))
    (k : ∀ tx : String, tx = (toString "Index " ++ toString i ++ toString " out of bounds for length " ++ toString n : String) → vx_Note p l e R s m args below meth c H locs cells slots Q (F0 m pc ls rest) "java/lang/ArrayIndexOutOfBoundsException" tx) : W p l e R s m args below meth c H locs cells slots Q (F0 m pc ls (.int i :: .ref a :: rest)) := by
  intro T hT X
  obtain ⟨t, st, q⟩ := k _ rfl T hT X
  refine ⟨t, ?_, q⟩
  have h1 := X.laloadOut hexec (by rw [hT]; exact hP q0 _ ha) ((hK.2 t0 _ ht).1 n (fun j => .long (f j))) (j := i) (by show (i < 0 ∨ (arrV _ _ _).slots.size ≤ _); rw [arrV_size]; exact Classical.byContradiction hout) (g := F0 m pc ls (.int i :: .ref a :: rest)) rfl (rest := rest) rfl (by rw [hb]; exact hdg) t
  simp only [arrV_size] at h1
  exact h1 st
theorem vx_lastZ {D : va_G} {cl : List vw_C} {ws : va_W} {tys : List (ClassId × FieldType)} {a : Nat} (hexec : p.tables.exec = Jvm.exec) (hb : c.code = cc) (hK : va_K D cl tys s) (hP : va_P D cl ws H) (q0 t0 : Nat) {cA : ClassId} {n : Nat} {f : Nat → Int64} (ha : ws[q0]? = some (a, .inl (cA, n, .inr (.inl f)))) (ht : tys[t0]? = some (cA, .long)) {i : Int32} {x : Int64} (hout : ¬ vp_in i n) (hdg : decode cc pc = .ok (.lastore, 1))
    (k : ∀ tx : String, tx = (toString "Index " ++ toString i ++ toString " out of bounds for length " ++ toString n : String) → vx_Note p l e R s m args below meth c H locs cells slots Q (F0 m pc ls rest) "java/lang/ArrayIndexOutOfBoundsException" tx) : W p l e R s m args below meth c H locs cells slots Q (F0 m pc ls (.long x :: .int i :: .ref a :: rest)) := by
  intro T hT X
  obtain ⟨t, st, q⟩ := k _ rfl T hT X
  refine ⟨t, ?_, q⟩
  have h1 := X.lastoreOut hexec (by rw [hT]; exact hP q0 _ ha) ((hK.2 t0 _ ht).1 n (fun j => .long (f j))) (j := i) (by show (i < 0 ∨ (arrV _ _ _).slots.size ≤ _); rw [arrV_size]; exact Classical.byContradiction hout) (g := F0 m pc ls (.long x :: .int i :: .ref a :: rest)) rfl (rest := rest) rfl (by rw [hb]; exact hdg) t
  simp only [arrV_size] at h1
  exact h1 st
theorem vx_faldZ {D : va_G} {cl : List vw_C} {ws : va_W} {tys : List (ClassId × FieldType)} {a : Nat} (hexec : p.tables.exec = Jvm.exec) (hb : c.code = cc) (hK : va_K D cl tys s) (hP : va_P D cl ws H) (q0 t0 : Nat) {cA : ClassId} {n : Nat} {f : Nat → UInt32} (ha : ws[q0]? = some (a, .inl (cA, n, .inr (.inr (.inl f))))) (ht : tys[t0]? = some (cA, .float)) {i : Int32} (hout : ¬ vp_in i n) (hdg : decode cc pc = .ok (.faload, 1))
    (k : ∀ tx : String, tx = (toString "Index " ++ toString i ++ toString " out of bounds for length " ++ toString n : String) → vx_Note p l e R s m args below meth c H locs cells slots Q (F0 m pc ls rest) "java/lang/ArrayIndexOutOfBoundsException" tx) : W p l e R s m args below meth c H locs cells slots Q (F0 m pc ls (.int i :: .ref a :: rest)) := by
  intro T hT X
  obtain ⟨t, st, q⟩ := k _ rfl T hT X
  refine ⟨t, ?_, q⟩
  have h1 := X.faloadOut hexec (by rw [hT]; exact hP q0 _ ha) ((hK.2 t0 _ ht).1 n (fun j => .float (f j))) (j := i) (by show (i < 0 ∨ (arrV _ _ _).slots.size ≤ _); rw [arrV_size]; exact Classical.byContradiction hout) (g := F0 m pc ls (.int i :: .ref a :: rest)) rfl (rest := rest) rfl (by rw [hb]; exact hdg) t
  simp only [arrV_size] at h1
  exact h1 st
theorem vx_fastZ {D : va_G} {cl : List vw_C} {ws : va_W} {tys : List (ClassId × FieldType)} {a : Nat} (hexec : p.tables.exec = Jvm.exec) (hb : c.code = cc) (hK : va_K D cl tys s) (hP : va_P D cl ws H) (q0 t0 : Nat) {cA : ClassId} {n : Nat} {f : Nat → UInt32} (ha : ws[q0]? = some (a, .inl (cA, n, .inr (.inr (.inl f))))) (ht : tys[t0]? = some (cA, .float)) {i : Int32} {x : UInt32} (hout : ¬ vp_in i n) (hdg : decode cc pc = .ok (.fastore, 1))
    (k : ∀ tx : String, tx = (toString "Index " ++ toString i ++ toString " out of bounds for length " ++ toString n : String) → vx_Note p l e R s m args below meth c H locs cells slots Q (F0 m pc ls rest) "java/lang/ArrayIndexOutOfBoundsException" tx) : W p l e R s m args below meth c H locs cells slots Q (F0 m pc ls (.float x :: .int i :: .ref a :: rest)) := by
  intro T hT X
  obtain ⟨t, st, q⟩ := k _ rfl T hT X
  refine ⟨t, ?_, q⟩
  have h1 := X.fastoreOut hexec (by rw [hT]; exact hP q0 _ ha) ((hK.2 t0 _ ht).1 n (fun j => .float (f j))) (j := i) (by show (i < 0 ∨ (arrV _ _ _).slots.size ≤ _); rw [arrV_size]; exact Classical.byContradiction hout) (g := F0 m pc ls (.float x :: .int i :: .ref a :: rest)) rfl (rest := rest) rfl (by rw [hb]; exact hdg) t
  simp only [arrV_size] at h1
  exact h1 st
theorem vx_daldZ {D : va_G} {cl : List vw_C} {ws : va_W} {tys : List (ClassId × FieldType)} {a : Nat} (hexec : p.tables.exec = Jvm.exec) (hb : c.code = cc) (hK : va_K D cl tys s) (hP : va_P D cl ws H) (q0 t0 : Nat) {cA : ClassId} {n : Nat} {f : Nat → UInt64} (ha : ws[q0]? = some (a, .inl (cA, n, .inr (.inr (.inr (.inl f)))))) (ht : tys[t0]? = some (cA, .double)) {i : Int32} (hout : ¬ vp_in i n) (hdg : decode cc pc = .ok (.daload, 1))
    (k : ∀ tx : String, tx = (toString "Index " ++ toString i ++ toString " out of bounds for length " ++ toString n : String) → vx_Note p l e R s m args below meth c H locs cells slots Q (F0 m pc ls rest) "java/lang/ArrayIndexOutOfBoundsException" tx) : W p l e R s m args below meth c H locs cells slots Q (F0 m pc ls (.int i :: .ref a :: rest)) := by
  intro T hT X
  obtain ⟨t, st, q⟩ := k _ rfl T hT X
  refine ⟨t, ?_, q⟩
  have h1 := X.daloadOut hexec (by rw [hT]; exact hP q0 _ ha) ((hK.2 t0 _ ht).1 n (fun j => .double (f j))) (j := i) (by show (i < 0 ∨ (arrV _ _ _).slots.size ≤ _); rw [arrV_size]; exact Classical.byContradiction hout) (g := F0 m pc ls (.int i :: .ref a :: rest)) rfl (rest := rest) rfl (by rw [hb]; exact hdg) t
  simp only [arrV_size] at h1
  exact h1 st
theorem vx_dastZ {D : va_G} {cl : List vw_C} {ws : va_W} {tys : List (ClassId × FieldType)} {a : Nat} (hexec : p.tables.exec = Jvm.exec) (hb : c.code = cc) (hK : va_K D cl tys s) (hP : va_P D cl ws H) (q0 t0 : Nat) {cA : ClassId} {n : Nat} {f : Nat → UInt64} (ha : ws[q0]? = some (a, .inl (cA, n, .inr (.inr (.inr (.inl f)))))) (ht : tys[t0]? = some (cA, .double)) {i : Int32} {x : UInt64} (hout : ¬ vp_in i n) (hdg : decode cc pc = .ok (.dastore, 1))
    (k : ∀ tx : String, tx = (toString "Index " ++ toString i ++ toString " out of bounds for length " ++ toString n : String) → vx_Note p l e R s m args below meth c H locs cells slots Q (F0 m pc ls rest) "java/lang/ArrayIndexOutOfBoundsException" tx) : W p l e R s m args below meth c H locs cells slots Q (F0 m pc ls (.double x :: .int i :: .ref a :: rest)) := by
  intro T hT X
  obtain ⟨t, st, q⟩ := k _ rfl T hT X
  refine ⟨t, ?_, q⟩
  have h1 := X.dastoreOut hexec (by rw [hT]; exact hP q0 _ ha) ((hK.2 t0 _ ht).1 n (fun j => .double (f j))) (j := i) (by show (i < 0 ∨ (arrV _ _ _).slots.size ≤ _); rw [arrV_size]; exact Classical.byContradiction hout) (g := F0 m pc ls (.double x :: .int i :: .ref a :: rest)) rfl (rest := rest) rfl (by rw [hb]; exact hdg) t
  simp only [arrV_size] at h1
  exact h1 st
theorem vx_arraylengthN (hexec : p.tables.exec = Jvm.exec) (hb : c.code = cc) (hdg : decode cc pc = .ok (.arraylength, 1)) (k : vx_NoteN p l e R s m args below meth c H locs cells slots Q (F0 m pc ls rest)) : W p l e R s m args below meth c H locs cells slots Q (F0 m pc ls (.null :: rest)) := by
  intro T hT X
  obtain ⟨t, st, q⟩ := k T hT X
  exact ⟨t, X.arraylengthNull hexec (g := F0 m pc ls (.null :: rest)) rfl (rest := rest) rfl (by rw [hb]; exact hdg) t st, q⟩
theorem vx_ialoadN (hexec : p.tables.exec = Jvm.exec) (hb : c.code = cc) {i : Int32} (hdg : decode cc pc = .ok (.iaload, 1)) (k : vx_NoteN p l e R s m args below meth c H locs cells slots Q (F0 m pc ls rest)) : W p l e R s m args below meth c H locs cells slots Q (F0 m pc ls (.int i :: .null :: rest)) := by
  intro T hT X
  obtain ⟨t, st, q⟩ := k T hT X
  exact ⟨t, X.ialoadNull hexec (g := F0 m pc ls (.int i :: .null :: rest)) rfl (rest := rest) rfl (by rw [hb]; exact hdg) t st, q⟩
theorem vx_laloadN (hexec : p.tables.exec = Jvm.exec) (hb : c.code = cc) {i : Int32} (hdg : decode cc pc = .ok (.laload, 1)) (k : vx_NoteN p l e R s m args below meth c H locs cells slots Q (F0 m pc ls rest)) : W p l e R s m args below meth c H locs cells slots Q (F0 m pc ls (.int i :: .null :: rest)) := by
  intro T hT X
  obtain ⟨t, st, q⟩ := k T hT X
  exact ⟨t, X.laloadNull hexec (g := F0 m pc ls (.int i :: .null :: rest)) rfl (rest := rest) rfl (by rw [hb]; exact hdg) t st, q⟩
theorem vx_faloadN (hexec : p.tables.exec = Jvm.exec) (hb : c.code = cc) {i : Int32} (hdg : decode cc pc = .ok (.faload, 1)) (k : vx_NoteN p l e R s m args below meth c H locs cells slots Q (F0 m pc ls rest)) : W p l e R s m args below meth c H locs cells slots Q (F0 m pc ls (.int i :: .null :: rest)) := by
  intro T hT X
  obtain ⟨t, st, q⟩ := k T hT X
  exact ⟨t, X.faloadNull hexec (g := F0 m pc ls (.int i :: .null :: rest)) rfl (rest := rest) rfl (by rw [hb]; exact hdg) t st, q⟩
theorem vx_daloadN (hexec : p.tables.exec = Jvm.exec) (hb : c.code = cc) {i : Int32} (hdg : decode cc pc = .ok (.daload, 1)) (k : vx_NoteN p l e R s m args below meth c H locs cells slots Q (F0 m pc ls rest)) : W p l e R s m args below meth c H locs cells slots Q (F0 m pc ls (.int i :: .null :: rest)) := by
  intro T hT X
  obtain ⟨t, st, q⟩ := k T hT X
  exact ⟨t, X.daloadNull hexec (g := F0 m pc ls (.int i :: .null :: rest)) rfl (rest := rest) rfl (by rw [hb]; exact hdg) t st, q⟩
theorem vx_aaloadN (hexec : p.tables.exec = Jvm.exec) (hb : c.code = cc) {i : Int32} (hdg : decode cc pc = .ok (.aaload, 1)) (k : vx_NoteN p l e R s m args below meth c H locs cells slots Q (F0 m pc ls rest)) : W p l e R s m args below meth c H locs cells slots Q (F0 m pc ls (.int i :: .null :: rest)) := by
  intro T hT X
  obtain ⟨t, st, q⟩ := k T hT X
  exact ⟨t, X.aaloadNull hexec (g := F0 m pc ls (.int i :: .null :: rest)) rfl (rest := rest) rfl (by rw [hb]; exact hdg) t st, q⟩
theorem vx_baloadN (hexec : p.tables.exec = Jvm.exec) (hb : c.code = cc) {i : Int32} (hdg : decode cc pc = .ok (.baload, 1)) (k : vx_NoteN p l e R s m args below meth c H locs cells slots Q (F0 m pc ls rest)) : W p l e R s m args below meth c H locs cells slots Q (F0 m pc ls (.int i :: .null :: rest)) := by
  intro T hT X
  obtain ⟨t, st, q⟩ := k T hT X
  exact ⟨t, X.baloadNull hexec (g := F0 m pc ls (.int i :: .null :: rest)) rfl (rest := rest) rfl (by rw [hb]; exact hdg) t st, q⟩
theorem vx_caloadN (hexec : p.tables.exec = Jvm.exec) (hb : c.code = cc) {i : Int32} (hdg : decode cc pc = .ok (.caload, 1)) (k : vx_NoteN p l e R s m args below meth c H locs cells slots Q (F0 m pc ls rest)) : W p l e R s m args below meth c H locs cells slots Q (F0 m pc ls (.int i :: .null :: rest)) := by
  intro T hT X
  obtain ⟨t, st, q⟩ := k T hT X
  exact ⟨t, X.caloadNull hexec (g := F0 m pc ls (.int i :: .null :: rest)) rfl (rest := rest) rfl (by rw [hb]; exact hdg) t st, q⟩
theorem vx_saloadN (hexec : p.tables.exec = Jvm.exec) (hb : c.code = cc) {i : Int32} (hdg : decode cc pc = .ok (.saload, 1)) (k : vx_NoteN p l e R s m args below meth c H locs cells slots Q (F0 m pc ls rest)) : W p l e R s m args below meth c H locs cells slots Q (F0 m pc ls (.int i :: .null :: rest)) := by
  intro T hT X
  obtain ⟨t, st, q⟩ := k T hT X
  exact ⟨t, X.saloadNull hexec (g := F0 m pc ls (.int i :: .null :: rest)) rfl (rest := rest) rfl (by rw [hb]; exact hdg) t st, q⟩
theorem vx_iastoreN (hexec : p.tables.exec = Jvm.exec) (hb : c.code = cc) {x : Int32} {i : Int32} (hdg : decode cc pc = .ok (.iastore, 1)) (k : vx_NoteN p l e R s m args below meth c H locs cells slots Q (F0 m pc ls rest)) : W p l e R s m args below meth c H locs cells slots Q (F0 m pc ls (.int x :: .int i :: .null :: rest)) := by
  intro T hT X
  obtain ⟨t, st, q⟩ := k T hT X
  exact ⟨t, X.iastoreNull hexec (g := F0 m pc ls (.int x :: .int i :: .null :: rest)) rfl (rest := rest) rfl (by rw [hb]; exact hdg) t st, q⟩
theorem vx_lastoreN (hexec : p.tables.exec = Jvm.exec) (hb : c.code = cc) {x : Int64} {i : Int32} (hdg : decode cc pc = .ok (.lastore, 1)) (k : vx_NoteN p l e R s m args below meth c H locs cells slots Q (F0 m pc ls rest)) : W p l e R s m args below meth c H locs cells slots Q (F0 m pc ls (.long x :: .int i :: .null :: rest)) := by
  intro T hT X
  obtain ⟨t, st, q⟩ := k T hT X
  exact ⟨t, X.lastoreNull hexec (g := F0 m pc ls (.long x :: .int i :: .null :: rest)) rfl (rest := rest) rfl (by rw [hb]; exact hdg) t st, q⟩
theorem vx_fastoreN (hexec : p.tables.exec = Jvm.exec) (hb : c.code = cc) {x : UInt32} {i : Int32} (hdg : decode cc pc = .ok (.fastore, 1)) (k : vx_NoteN p l e R s m args below meth c H locs cells slots Q (F0 m pc ls rest)) : W p l e R s m args below meth c H locs cells slots Q (F0 m pc ls (.float x :: .int i :: .null :: rest)) := by
  intro T hT X
  obtain ⟨t, st, q⟩ := k T hT X
  exact ⟨t, X.fastoreNull hexec (g := F0 m pc ls (.float x :: .int i :: .null :: rest)) rfl (rest := rest) rfl (by rw [hb]; exact hdg) t st, q⟩
theorem vx_dastoreN (hexec : p.tables.exec = Jvm.exec) (hb : c.code = cc) {x : UInt64} {i : Int32} (hdg : decode cc pc = .ok (.dastore, 1)) (k : vx_NoteN p l e R s m args below meth c H locs cells slots Q (F0 m pc ls rest)) : W p l e R s m args below meth c H locs cells slots Q (F0 m pc ls (.double x :: .int i :: .null :: rest)) := by
  intro T hT X
  obtain ⟨t, st, q⟩ := k T hT X
  exact ⟨t, X.dastoreNull hexec (g := F0 m pc ls (.double x :: .int i :: .null :: rest)) rfl (rest := rest) rfl (by rw [hb]; exact hdg) t st, q⟩
theorem vx_bastoreN (hexec : p.tables.exec = Jvm.exec) (hb : c.code = cc) {x : Int32} {i : Int32} (hdg : decode cc pc = .ok (.bastore, 1)) (k : vx_NoteN p l e R s m args below meth c H locs cells slots Q (F0 m pc ls rest)) : W p l e R s m args below meth c H locs cells slots Q (F0 m pc ls (.int x :: .int i :: .null :: rest)) := by
  intro T hT X
  obtain ⟨t, st, q⟩ := k T hT X
  exact ⟨t, X.bastoreNull hexec (g := F0 m pc ls (.int x :: .int i :: .null :: rest)) rfl (rest := rest) rfl (by rw [hb]; exact hdg) t st, q⟩
theorem vx_castoreN (hexec : p.tables.exec = Jvm.exec) (hb : c.code = cc) {x : Int32} {i : Int32} (hdg : decode cc pc = .ok (.castore, 1)) (k : vx_NoteN p l e R s m args below meth c H locs cells slots Q (F0 m pc ls rest)) : W p l e R s m args below meth c H locs cells slots Q (F0 m pc ls (.int x :: .int i :: .null :: rest)) := by
  intro T hT X
  obtain ⟨t, st, q⟩ := k T hT X
  exact ⟨t, X.castoreNull hexec (g := F0 m pc ls (.int x :: .int i :: .null :: rest)) rfl (rest := rest) rfl (by rw [hb]; exact hdg) t st, q⟩
theorem vx_sastoreN (hexec : p.tables.exec = Jvm.exec) (hb : c.code = cc) {x : Int32} {i : Int32} (hdg : decode cc pc = .ok (.sastore, 1)) (k : vx_NoteN p l e R s m args below meth c H locs cells slots Q (F0 m pc ls rest)) : W p l e R s m args below meth c H locs cells slots Q (F0 m pc ls (.int x :: .int i :: .null :: rest)) := by
  intro T hT X
  obtain ⟨t, st, q⟩ := k T hT X
  exact ⟨t, X.sastoreNull hexec (g := F0 m pc ls (.int x :: .int i :: .null :: rest)) rfl (rest := rest) rfl (by rw [hb]; exact hdg) t st, q⟩
theorem vx_invokeN {own C : String} {index maxL : Nat} {y : MethodName} {bytes : ByteArray} {ret : Option FieldType} (hexec : p.tables.exec = Jvm.exec) (hb : c.code = cc) (hown : s.vm.findClass own = some m.cls) (hlink : (Cond.methodLink own index y).before args s = true) (hinst : (Cond.instanceMethod y).before args s = true) (hcode : (Cond.code y bytes maxL ret).before args s = true) (hsel : (Cond.selects C y y).before args s = true)
    (hx : y.cls ≠ "java/lang/invoke/MethodHandle" ∧ y.cls ≠ "java/lang/invoke/VarHandle") {As : List Value} (hlen : (parseMethodDescriptor y.desc).map (fun d => d.parameters.length) = some As.length) (hdg : decode cc pc = .ok (.invokevirtual index, 3))
    (k : vx_NoteN p l e R s m args below meth c H locs cells slots Q (F0 m pc ls rest)) {st0 : List Value} (hst : st0 = As.reverse ++ .null :: rest) : W p l e R s m args below meth c H locs cells slots Q (F0 m pc ls st0) := by
  intro T hT X
  obtain ⟨r0, r, hn, hrm, hstR, hsigR⟩ := va_Decl.of hinst hcode
  obtain ⟨c2, r2, m2, q1, q2, q3, q4, kP, hkP, hkPi⟩ := Cond.selects_spec hsel
  cases hn.symm.trans q3
  have hl9 : As.length = r.sig.parameters.length := by
    rw [hsigR] at hlen
    exact (Option.some.inj hlen).symm
  obtain ⟨vm', X1, st1⟩ := X.invokevirtualNull hexec hown hlink hn hrm hstR hkP hkPi hx (g := F0 m pc ls st0) rfl (argsL := As) (rest := rest) hl9 hst (by rw [hb]; exact hdg)
  obtain ⟨t, st, q⟩ := k (T.setVm vm') hT X1
  exact ⟨t, st1 t st, q⟩
theorem vx_newarrayZ {atype : ArrayType} (hexec : p.tables.exec = Jvm.exec) (hb : c.code = cc) {n : Int32} (h0 : n < 0) (hdg : decode cc pc = .ok (.newarray atype, 2)) (k : ∀ tx : String, tx = toString n → vx_Note p l e R s m args below meth c H locs cells slots Q (F0 m pc ls rest) "java/lang/NegativeArraySizeException" tx) : W p l e R s m args below meth c H locs cells slots Q (F0 m pc ls (.int n :: rest)) := by
  intro T hT X
  obtain ⟨t, st, q⟩ := k _ rfl T hT X
  exact ⟨t, X.newarrayNegative hexec (g := F0 m pc ls (.int n :: rest)) rfl h0 (rest := rest) rfl (by rw [hb]; exact hdg) t st, q⟩
end
end VXM
/-! ===== END ===== -/
/-! ===== BEGIN an exception as an object: made, kept, thrown later (no traces kept) ===== -/
section VXK
variable {p : Program} {l : Launch} {e : Env} {R : Room} {s : State} {m₀ : MethodId} {args : Array Value} {below : List Frame} {meth : Method} {c : Code} {W : State} {locs : List Loc} {cells slots : Nat}
set_option maxHeartbeats 1000000 in
theorem vx_ctorMadeS (X : Stand p l e R s m₀ args below meth c W locs cells slots) (hexec : p.tables.exec = Jvm.exec) (htr : e.platform.stackTraces = false) {own cls : String} {names : List String} {ic : Nat}
    (hown : s.vm.findClass own = some m₀.cls) (hcls : Bundle.fit cls = true) (hnames : ∀ n ∈ names, Bundle.fit n = true)
    (h : ∀ a ∈ Bundle.ownAtoms own ic cls names, a.before args s = true)
    (hlocs : ∀ x ∈ locs, ∀ cell, s.heap[x.base]? = some cell → cell.vm.isStatics = false)
    {a : Addr} {cX : ClassId} {kX : Class} (hfoundX : s.vm.findClass cls = some cX) (hkX : s.vm.classes[cX]? = some kX) (hcell : W.heap[a]? = some (freshCell cX kX)) (hnew : s.heap.size ≤ a)
    {msg : Value} (hmsg : msg.isRef = true)
    {g : JFrame} (hg : g.method = m₀) (hsize : g.locals.size = c.maxLocals) {rest : List Value} (hstack : g.stack = msg :: .ref a :: .ref a :: rest)
    (hd6 : decode c.code g.pc = .ok (.invokespecial ic, 3))
    (hRframes : names.length + 3 < R.frames) (hRlocals : 2 * g.monitorRoom + ((Value.ref a :: rest).map fun v => v.category).sum + (13 * (names.length + 1) + 42) ≤ R.locals) :
    ∃ (V : State) (ce : Cell) (L : List Loc), Stand p l e R s m₀ args below meth c (V.setCell a ce) (locs ++ L) cells slots ∧ (∀ y ∈ L, y.base = a) ∧ a < V.heap.size ∧ ce.cls = cX ∧ ce.vm = .none ∧
      ∀ target, Steps p.tables e below ((V.setCell a ce).setTop { g with stack := .ref a :: rest, pc := g.pc + 3 }) target → Steps p.tables e below (W.setTop g) target := by
  have howns : e.platform.frameOwnsMonitors = true := by rw [X.admits.platform]
  have hfin : e.platform.finalization = false := by rw [X.admits.platform]
  have hpl : e.platform.magicAccessors = ({} : Platform).magicAccessors := by rw [X.admits.platform]
  have a' : ∀ x, x ∈ Bundle.ownAtoms own ic cls names → x.holds args s none s [] = true := fun x hx => h x hx
  obtain ⟨T, Z0, L, -, Y⟩ := ThrowableC.of_atoms (args := args) howns hfin hpl (fun x hx => h x (by simp [Bundle.ownAtoms, hx]))
  obtain ⟨Z, M, LZ, LM, hnZ⟩ := Init0T.ofS_atoms (args := args) hpl L Y (fun x hx => h x (by simp [Bundle.ownAtoms, hx]))
  obtain ⟨P1, Ps, hlen, L1, hL, hP1m, hlink1, hlink⟩ := Bundle.chainS (args := args) hpl hnZ names cls hcls hnames (fun x hx => h x (by simp [Bundle.ownAtoms, hx]))
  have hfound : s.vm.findClass cls = some P1.m.cls := findClass_of_methodNamed hP1m
  cases Option.some.inj (hfoundX.symm.trans hfound)
  obtain ⟨c1, kX', hc1, hk, hord, -, -, hn6⟩ := Cond.instantiable_spec (a' (.instantiable cls 6) (by simp [Bundle.ownAtoms]))
  cases Option.some.inj (hc1.symm.trans hfound)
  cases Option.some.inj (hkX.symm.trans hk)
  have hsel0 : selectMethod e.platform s.vm P1.m.cls T.fill0 = .method T.fill0 := by
    obtain ⟨c2, r2, m2, q1, q2, q3, q4, -⟩ := Cond.selects_spec (a' (.selects cls Bundle.tFill0 Bundle.tFill0) (by simp [Bundle.ownAtoms]))
    cases Option.some.inj (q1.symm.trans hfound)
    cases Option.some.inj (q2.symm.trans (State.methodFound?_of_named Y.fill0 (by decide)))
    cases Option.some.inj (q3.symm.trans Y.fill0)
    rw [Launch.admits_selectMethod X.admits]; exact q4
  have hselF : selectMethod e.platform s.vm P1.m.cls T.fill = .method T.fill := by
    obtain ⟨c2, r2, m2, q1, q2, q3, q4, -⟩ := Cond.selects_spec (a' (.selects cls Bundle.tFill Bundle.tFill) (by simp [Bundle.ownAtoms]))
    cases Option.some.inj (q1.symm.trans hfound)
    cases Option.some.inj (q2.symm.trans (State.methodFound?_of_named Y.fill (by decide)))
    cases Option.some.inj (q3.symm.trans Y.fill)
    rw [Launch.admits_selectMethod X.admits]; exact q4
  obtain ⟨cellS0, hcS0, hiss⟩ := Y.statics
  obtain ⟨u0, hu0⟩ := Cond.staticRefV Y.unassigned L.unassignedStatic L.statics hcS0 hiss (a' (.isRef (.static Bundle.tN "UNASSIGNED_STACK" Bundle.steD)) (by simp [Bundle.ownAtoms]))
  obtain ⟨sen, hsen⟩ := Cond.staticRefV Y.sentinel L.sentinelStatic L.statics hcS0 hiss (a' (.isRef (.static Bundle.tN "SUPPRESSED_SENTINEL" Bundle.listD)) (by simp [Bundle.ownAtoms]))
  obtain ⟨ci198, i198, fB, hk198, hg198, ha198, hsB, -, hnB, htB, hffB⟩ := Cond.ownField (t := .object "java/lang/Object") Y.found L.cls (by decide +kernel) (a' (.fieldLink Bundle.tN 198 Bundle.tN "backtrace" "Ljava/lang/Object;") (by simp [Bundle.ownAtoms])) (a' (.lays Bundle.tN Bundle.tN "backtrace" "Ljava/lang/Object;") (by simp [Bundle.ownAtoms])) e.platform hpl
  obtain ⟨cellS, hcS', heS, -, hkeep⟩ := X.same.2.2.2.2.2 T.aS cellS0 hcS0
  have hcellS : W.heap[T.aS]? = some cellS := hcS'
  have hout' : ∀ i, (⟨T.aS, i⟩ : Loc) ∉ locs := fun i hmem => by
    have := hlocs _ hmem cellS0 hcS0
    rw [hiss] at this; cases this
  have hknownS : cellS.vm ≠ .unknown := by
    rw [heS]; intro hu
    rw [show cellS0.vm = .unknown from hu] at hiss
    cases hiss
  have hneS : T.aS ≠ a := Nat.ne_of_lt (Nat.lt_of_lt_of_le (Array.getElem?_eq_some_iff.mp hcS0).1 hnew)
  obtain ⟨iM, hffM⟩ := Y.msg
  obtain ⟨tyC, dC, hdC, hdnC⟩ := Cond.laysAt hfound hk Y.cause (a' (.lays cls Bundle.tN "cause" "Ljava/lang/Throwable;") (by simp [Bundle.ownAtoms]))
  obtain ⟨tyS, dS, hdS, hdnS⟩ := Cond.laysAt hfound hk Y.stack (a' (.lays cls Bundle.tN "stackTrace" Bundle.steD) (by simp [Bundle.ownAtoms]))
  obtain ⟨tyP, dP, hdP, hdnP⟩ := Cond.laysAt hfound hk Y.supp (a' (.lays cls Bundle.tN "suppressedExceptions" Bundle.listD) (by simp [Bundle.ownAtoms]))
  obtain ⟨tyM, dM, hdM, hdnM⟩ := Cond.laysAt hfound hk hffM (a' (.lays cls Bundle.tN "detailMessage" "Ljava/lang/String;") (by simp [Bundle.ownAtoms]))
  obtain ⟨tyB, dB, hdB, hdnB⟩ := Cond.laysAt hfound hk hffB (a' (.lays cls Bundle.tN "backtrace" "Ljava/lang/Object;") (by simp [Bundle.ownAtoms]))
  have bC := Cond.laysApart hdB hdC hdnB hdnC (by rw [hnB, Y.causeName]; decide)
  have bS := Cond.laysApart hdB hdS hdnB hdnS (by rw [hnB, Y.stackName]; decide)
  have bP := Cond.laysApart hdB hdP hdnB hdnP (by rw [hnB, Y.suppName]; decide)
  have hskip : SkipFacts T e.platform s (fun u => u) u0 ((preparedCellV T.toThrowableT (freshCell P1.m.cls kX) a u0 sen).withEntry W.cur) :=
    ⟨{ ci198 := ci198, i198 := i198, fBack := fB }, ⟨hk198, hg198, ha198, hsB⟩, by
      have := fresh_default (c := P1.m.cls) tyB
      rw [htB] at this
      simpa [preparedCellV, Cell.setSlot, Cell.withEntry, Array.getElem?_setIfInBounds, bC, bS, bP, bC.symm, bS.symm, bP.symm, defaultValue] using this, fun _ _ => rfl⟩
  obtain ⟨tm, methC, cdC, kC, vm₁, hnC, -, -, -, -, -, -, -, hW₁, st1⟩ := Steps.initColdS (tb := p.tables) (e := e) (below := below) (s := s) (U := W) X.here hexec X.warmed hpl hown (t := Bundle.initS cls) rfl rfl (Bundle.fit_spec hcls).2
    (a' (.methodLink own ic (Bundle.initS cls)) (by simp [Bundle.ownAtoms])) (h (.instanceMethod (Bundle.initS cls)) (by cases names <;> simp [Bundle.ownAtoms, Bundle.chainSAtoms, Bundle.passSAtoms])) (bytes := Bundle.six) (maxL := 2) (h (.code (Bundle.initS cls) Bundle.six 2 none) (by cases names <;> simp [Bundle.ownAtoms, Bundle.chainSAtoms, Bundle.passSAtoms]))
    (f := g) hg (a := a) (msg := msg) (rest := .ref a :: rest) hstack hd6
  cases Option.some.inj (hnC.symm.trans hP1m)
  have X₁ := X.noted hW₁
  obtain ⟨vm₂, X₂, st2⟩ := X₁.ctorMessageOffV hexec (g := { g with stack := .ref a :: rest }) hg hsize T L Z LZ M LM (P1 :: Ps)
    (fun P hP => by rcases List.mem_cons.mp hP with rfl | hP; exact L1; exact hL P hP) ⟨hlink1, hlink⟩ (u0 := u0) (sen := sen) (self := a) hmsg (cell := freshCell P1.m.cls kX) (cellS := cellS)
    hcell (fun _ => by simp) (by simp) rfl rfl hsel0 hselF hcellS hneS hknownS (by rw [hkeep _ (hout' _)]; exact hu0) (by rw [hkeep _ (hout' _)]; exact hsen)
    (Takes.of_laid hk hord tyC (by rw [Y.causeType]; rfl)) (Takes.of_laid hk hord tyS (by rw [Y.stackType]; exact fits_refV_array _ u0)) (Takes.of_laid hk hord tyP (by rw [Y.suppType]; exact fits_refV_object _ sen))
    (Takes.of_laid hk hord tyM (by rw [Y.msgType]; exact fits_refV_object _ ⟨msg, hmsg⟩)) Y.objLocals hskip htr [] hd6
    (by simp only [List.length_cons, hlen]; omega) (by simp only [List.length_cons, hlen]; exact hRlocals)
  have hlt : a < ((W.setVm vm₁).setVm vm₂).heap.size := (Array.getElem?_eq_some_iff.mp hcell).1
  refine ⟨(W.setVm vm₁).setVm vm₂, _, _, X₂, fun y hy => ?_, hlt, rfl, rfl, fun target hwalk => st1 _ (fun acts => ?_)⟩
  · simp only [List.mem_cons, List.not_mem_nil, or_false] at hy
    rcases hy with rfl | rfl | rfl | rfl | rfl <;> rfl
  · rw [doInvoke_state]
    exact st2 _ hwalk
set_option maxHeartbeats 1000000 in
theorem vx_ctorMade0 (X : Stand p l e R s m₀ args below meth c W locs cells slots) (hexec : p.tables.exec = Jvm.exec) (htr : e.platform.stackTraces = false) {own cls : String} {names : List String} {ic : Nat}
    (hown : s.vm.findClass own = some m₀.cls) (hcls : Bundle.fit cls = true) (hnames : ∀ n ∈ names, Bundle.fit n = true)
    (h : ∀ a ∈ Bundle.ownAtoms0 own ic cls names, a.before args s = true)
    (hlocs : ∀ x ∈ locs, ∀ cell, s.heap[x.base]? = some cell → cell.vm.isStatics = false)
    {a : Addr} {cX : ClassId} {kX : Class} (hfoundX : s.vm.findClass cls = some cX) (hkX : s.vm.classes[cX]? = some kX) (hcell : W.heap[a]? = some (freshCell cX kX)) (hnew : s.heap.size ≤ a)
    {g : JFrame} (hg : g.method = m₀) (hsize : g.locals.size = c.maxLocals) {rest : List Value} (hstack : g.stack = .ref a :: .ref a :: rest)
    (hd6 : decode c.code g.pc = .ok (.invokespecial ic, 3))
    (hRframes : names.length + 3 < R.frames) (hRlocals : 2 * g.monitorRoom + ((Value.ref a :: rest).map fun v => v.category).sum + (13 * (names.length + 1) + 41) ≤ R.locals) :
    ∃ (V : State) (ce : Cell) (L : List Loc), Stand p l e R s m₀ args below meth c (V.setCell a ce) (locs ++ L) cells slots ∧ (∀ y ∈ L, y.base = a) ∧ a < V.heap.size ∧ ce.cls = cX ∧ ce.vm = .none ∧
      ∀ target, Steps p.tables e below ((V.setCell a ce).setTop { g with stack := .ref a :: rest, pc := g.pc + 3 }) target → Steps p.tables e below (W.setTop g) target := by
  have howns : e.platform.frameOwnsMonitors = true := by rw [X.admits.platform]
  have hfin : e.platform.finalization = false := by rw [X.admits.platform]
  have hpl : e.platform.magicAccessors = ({} : Platform).magicAccessors := by rw [X.admits.platform]
  have a' : ∀ x, x ∈ Bundle.ownAtoms0 own ic cls names → x.holds args s none s [] = true := fun x hx => h x hx
  obtain ⟨T, Z, L, LZ, Y⟩ := ThrowableC.of_atoms (args := args) howns hfin hpl (fun x hx => h x (by simp [Bundle.ownAtoms0, hx]))
  obtain ⟨P1, Ps, hlen, L1, hL, hP1m, hlink1, hlink⟩ := Bundle.chain0 (args := args) hpl Y.init0 names cls hcls hnames (fun x hx => h x (by simp [Bundle.ownAtoms0, hx]))
  have hfound : s.vm.findClass cls = some P1.m.cls := findClass_of_methodNamed hP1m
  cases Option.some.inj (hfoundX.symm.trans hfound)
  obtain ⟨c1, kX', hc1, hk, hord, -, -, hn6⟩ := Cond.instantiable_spec (a' (.instantiable cls 6) (by simp [Bundle.ownAtoms0]))
  cases Option.some.inj (hc1.symm.trans hfound)
  cases Option.some.inj (hkX.symm.trans hk)
  have hsel0 : selectMethod e.platform s.vm P1.m.cls T.fill0 = .method T.fill0 := by
    obtain ⟨c2, r2, m2, q1, q2, q3, q4, -⟩ := Cond.selects_spec (a' (.selects cls Bundle.tFill0 Bundle.tFill0) (by simp [Bundle.ownAtoms0]))
    cases Option.some.inj (q1.symm.trans hfound)
    cases Option.some.inj (q2.symm.trans (State.methodFound?_of_named Y.fill0 (by decide)))
    cases Option.some.inj (q3.symm.trans Y.fill0)
    rw [Launch.admits_selectMethod X.admits]; exact q4
  have hselF : selectMethod e.platform s.vm P1.m.cls T.fill = .method T.fill := by
    obtain ⟨c2, r2, m2, q1, q2, q3, q4, -⟩ := Cond.selects_spec (a' (.selects cls Bundle.tFill Bundle.tFill) (by simp [Bundle.ownAtoms0]))
    cases Option.some.inj (q1.symm.trans hfound)
    cases Option.some.inj (q2.symm.trans (State.methodFound?_of_named Y.fill (by decide)))
    cases Option.some.inj (q3.symm.trans Y.fill)
    rw [Launch.admits_selectMethod X.admits]; exact q4
  obtain ⟨cellS0, hcS0, hiss⟩ := Y.statics
  obtain ⟨u0, hu0⟩ := Cond.staticRefV Y.unassigned L.unassignedStatic L.statics hcS0 hiss (a' (.isRef (.static Bundle.tN "UNASSIGNED_STACK" Bundle.steD)) (by simp [Bundle.ownAtoms0]))
  obtain ⟨sen, hsen⟩ := Cond.staticRefV Y.sentinel L.sentinelStatic L.statics hcS0 hiss (a' (.isRef (.static Bundle.tN "SUPPRESSED_SENTINEL" Bundle.listD)) (by simp [Bundle.ownAtoms0]))
  obtain ⟨ci198, i198, fB, hk198, hg198, ha198, hsB, -, hnB, htB, hffB⟩ := Cond.ownField (t := .object "java/lang/Object") Y.found L.cls (by decide +kernel) (a' (.fieldLink Bundle.tN 198 Bundle.tN "backtrace" "Ljava/lang/Object;") (by simp [Bundle.ownAtoms0])) (a' (.lays Bundle.tN Bundle.tN "backtrace" "Ljava/lang/Object;") (by simp [Bundle.ownAtoms0])) e.platform hpl
  obtain ⟨cellS, hcS', heS, -, hkeep⟩ := X.same.2.2.2.2.2 T.aS cellS0 hcS0
  have hcellS : W.heap[T.aS]? = some cellS := hcS'
  have hout' : ∀ i, (⟨T.aS, i⟩ : Loc) ∉ locs := fun i hmem => by
    have := hlocs _ hmem cellS0 hcS0
    rw [hiss] at this; cases this
  have hknownS : cellS.vm ≠ .unknown := by
    rw [heS]; intro hu
    rw [show cellS0.vm = .unknown from hu] at hiss
    cases hiss
  have hneS : T.aS ≠ a := Nat.ne_of_lt (Nat.lt_of_lt_of_le (Array.getElem?_eq_some_iff.mp hcS0).1 hnew)
  obtain ⟨iM, hffM⟩ := Y.msg
  obtain ⟨tyC, dC, hdC, hdnC⟩ := Cond.laysAt hfound hk Y.cause (a' (.lays cls Bundle.tN "cause" "Ljava/lang/Throwable;") (by simp [Bundle.ownAtoms0]))
  obtain ⟨tyS, dS, hdS, hdnS⟩ := Cond.laysAt hfound hk Y.stack (a' (.lays cls Bundle.tN "stackTrace" Bundle.steD) (by simp [Bundle.ownAtoms0]))
  obtain ⟨tyP, dP, hdP, hdnP⟩ := Cond.laysAt hfound hk Y.supp (a' (.lays cls Bundle.tN "suppressedExceptions" Bundle.listD) (by simp [Bundle.ownAtoms0]))
  obtain ⟨tyM, dM, hdM, hdnM⟩ := Cond.laysAt hfound hk hffM (a' (.lays cls Bundle.tN "detailMessage" "Ljava/lang/String;") (by simp [Bundle.ownAtoms0]))
  obtain ⟨tyB, dB, hdB, hdnB⟩ := Cond.laysAt hfound hk hffB (a' (.lays cls Bundle.tN "backtrace" "Ljava/lang/Object;") (by simp [Bundle.ownAtoms0]))
  have bC := Cond.laysApart hdB hdC hdnB hdnC (by rw [hnB, Y.causeName]; decide)
  have bS := Cond.laysApart hdB hdS hdnB hdnS (by rw [hnB, Y.stackName]; decide)
  have bP := Cond.laysApart hdB hdP hdnB hdnP (by rw [hnB, Y.suppName]; decide)
  have hskip : SkipFacts T e.platform s (fun u => u) u0 ((preparedCellV T.toThrowableT (freshCell P1.m.cls kX) a u0 sen).withEntry W.cur) :=
    ⟨{ ci198 := ci198, i198 := i198, fBack := fB }, ⟨hk198, hg198, ha198, hsB⟩, by
      have := fresh_default (c := P1.m.cls) tyB
      rw [htB] at this
      simpa [preparedCellV, Cell.setSlot, Cell.withEntry, Array.getElem?_setIfInBounds, bC, bS, bP, bC.symm, bS.symm, bP.symm, defaultValue] using this, fun _ _ => rfl⟩
  obtain ⟨tm, methC, cdC, kC, vm₁, hnC, -, -, -, -, -, -, -, hW₁, st1⟩ := Steps.initCold (tb := p.tables) (e := e) (below := below) (s := s) (U := W) X.here hexec X.warmed hpl hown (t := Bundle.init0 cls) rfl rfl (Bundle.fit_spec hcls).2
    (a' (.methodLink own ic (Bundle.init0 cls)) (by simp [Bundle.ownAtoms0])) (h (.instanceMethod (Bundle.init0 cls)) (by cases names <;> simp [Bundle.ownAtoms0, Bundle.chain0Atoms, Bundle.passAtoms])) (bytes := Bundle.five) (maxL := 1) (h (.code (Bundle.init0 cls) Bundle.five 1 none) (by cases names <;> simp [Bundle.ownAtoms0, Bundle.chain0Atoms, Bundle.passAtoms]))
    (f := g) hg (a := a) (rest := .ref a :: rest) hstack hd6
  cases Option.some.inj (hnC.symm.trans hP1m)
  have X₁ := X.noted hW₁
  obtain ⟨vm₂, X₂, st2⟩ := X₁.ctorPlainOffV hexec (g := { g with stack := .ref a :: rest }) hg hsize T L Z LZ (P1 :: Ps)
    (fun P hP => by rcases List.mem_cons.mp hP with rfl | hP; exact L1; exact hL P hP) ⟨hlink1, hlink⟩ (u0 := u0) (sen := sen) (self := a) (cell := freshCell P1.m.cls kX) (cellS := cellS)
    hcell (fun _ => by simp) (by simp) rfl rfl hsel0 hselF hcellS hneS hknownS (by rw [hkeep _ (hout' _)]; exact hu0) (by rw [hkeep _ (hout' _)]; exact hsen)
    (Takes.of_laid hk hord tyC (by rw [Y.causeType]; rfl)) (Takes.of_laid hk hord tyS (by rw [Y.stackType]; exact fits_refV_array _ u0)) (Takes.of_laid hk hord tyP (by rw [Y.suppType]; exact fits_refV_object _ sen)) Y.objLocals hskip htr [] hd6
    (by simp only [List.length_cons, hlen]; omega) (by simp only [List.length_cons, hlen]; exact hRlocals)
  have hlt : a < ((W.setVm vm₁).setVm vm₂).heap.size := (Array.getElem?_eq_some_iff.mp hcell).1
  refine ⟨(W.setVm vm₁).setVm vm₂, _, _, X₂, fun y hy => ?_, hlt, rfl, rfl, fun target hwalk => st1 _ (fun acts => ?_)⟩
  · simp only [List.mem_cons, List.not_mem_nil, or_false] at hy
    rcases hy with rfl | rfl | rfl | rfl <;> rfl
  · rw [doInvoke_state]
    exact st2 _ hwalk
end VXK
section VXK2
variable {p : Program} {l : Launch} {e : Env} {R : Room} {s : State} {m : MethodId} {args : Array Value} {below : List Frame} {meth : Method} {c : Code} {H : Heap} {locs : List Loc} {cells slots : Nat} {Q : State → Prop}
variable {ls : Array Slot} {rest : List Value} {D : va_G} {cl : List vw_C} {tys : List (ClassId × FieldType)} {ws : va_W}
/-- 'new E("text")' that isn't thrown at once: the object goes on the stack -/
theorem vx_makeS {cc : ByteArray} {pc : Nat} (hexec : p.tables.exec = Jvm.exec) (hb : c.code = cc) (hl : l.stackTraces = false) {own cls text : String} {names : List String} {ik is ic sa ci : Nat} {A : Nat → Prop} {T0 : u_T}
    (hown : s.vm.findClass own = some m.cls) (hcls : Bundle.fit cls = true) (hnames : ∀ n ∈ names, Bundle.fit n = true)
    (hk : (Cond.classLink own ik cls).before args s = true) (hini : (Cond.initialized cls).before args s = true) (hstr : vk_R own is text sa s) (hat : ∀ w ∈ vx_atS own ic cls names, w.before args s = true)
    (hgood : ∀ w ∈ Cond.classLink own ik cls :: Cond.initialized cls :: vx_atS own ic cls names, vx_ot w = true)
    (hU : vx_Zq Bundle.tN "UNASSIGNED_STACK" Bundle.steD A s s.heap) (hN : vx_Zq Bundle.tN "SUPPRESSED_SENTINEL" Bundle.listD A s s.heap) (hS : va_S A s.heap H locs) (hsize : ls.size = c.maxLocals)
    (d0 : decode cc pc = .ok (.new ik, 3)) (d3 : decode cc (pc + 3) = .ok (.dup, 1)) (d4 : decode cc (pc + 4) = .ok (.ldc is, 2)) (d6 : decode cc (pc + 6) = .ok (.invokespecial ic, 3))
    (hK : va_K D cl tys s) (hP : va_P D cl ws H) (hD : va_D A ws) (hA : ∀ q, s.heap.size ≤ q → A q) (hc : cl[ci]? = some (cls, T0, 0))
    (hRframes : names.length + 3 < R.frames) (hRlocals : (rest.map fun v => v.category).sum + (13 * (names.length + 1) + 43) ≤ R.locals) (hRcells : cells + 1 ≤ R.cells) (hRslots : slots + 6 ≤ R.slots)
    (kk : ∀ (q : Nat) (H1 : Heap), va_P D cl (ws ++ [(q, .inr (ci, []))]) H1 → va_D A (ws ++ [(q, .inr (ci, []))]) → va_S A s.heap H1 locs → W p l e R s m args below meth c H1 locs (cells + 1) (slots + 6) Q (F0 m (pc + 9) ls (.ref q :: rest))) :
    W p l e R s m args below meth c H locs cells slots Q (F0 m pc ls rest) := by
  intro T hT X
  subst hT
  have htr : e.platform.stackTraces = false := (show e.platform.stackTraces = l.stackTraces by rw [X.admits.platform]).trans hl
  have Y := vx_rebase X (R' := { frames := R.frames, locals := R.locals, cells := 1, slots := 6 }) (Nat.le_refl _) (Nat.le_refl _) hRcells hRslots
  obtain ⟨s', hA'⟩ : ∃ z, z = (T.setVm s.vm).setFrames (.invoking m args :: below) := ⟨_, rfl⟩
  rw [← hA'] at Y
  have hvm : s'.vm = s.vm := by rw [hA']; rfl
  have hhp : s'.heap = T.heap := by rw [hA']; rfl
  have hW0 : s.WarmedH s'.vm := by rw [hvm]; exact State.WarmedH.refl s
  have hat' : ∀ w ∈ vx_atS own ic cls names, w.before args s' = true := fun w hw => vx_ot_at hW0 hvm.symm (hgood w (List.mem_cons_of_mem _ (List.mem_cons_of_mem _ hw))) (hat w hw)
  have hk' : (Cond.classLink own ik cls).before args s' = true := vx_ot_at hW0 hvm.symm (hgood _ List.mem_cons_self) hk
  have hini' : (Cond.initialized cls).before args s' = true := vx_ot_at hW0 hvm.symm (hgood _ (List.mem_cons_of_mem _ List.mem_cons_self)) hini
  have hU' : vx_Zq Bundle.tN "UNASSIGNED_STACK" Bundle.steD A s' s'.heap := by rw [hhp]; exact vx_Zq.moved hW0.alike (hU.kept hS.2.1)
  have hN' : vx_Zq Bundle.tN "SUPPRESSED_SENTINEL" Bundle.listD A s' s'.heap := by rw [hhp]; exact vx_Zq.moved hW0.alike (hN.kept hS.2.1)
  have h : ∀ w ∈ Bundle.ownAtoms own ic cls names, w.before args s' = true := vx_own hat' (vx_isRefq hU'.1) (vx_isRefq hN'.1) hU'.2.word hN'.2.word
  have hown' : s'.vm.findClass own = some m.cls := by rw [hvm]; exact hown
  have hins : (Cond.instantiable cls 6).before args s' = true := h _ (by simp [Bundle.ownAtoms])
  obtain ⟨vm₁, cX, kX, hfX, hkX, -, -, X₁, st1⟩ := Y.newCold hexec (own := own) (C := cls) (index := ik) (n := 6) hown' hk' hins hini'
    (g := F0 m pc ls rest) rfl (by rw [hb]; exact d0) (Nat.le_refl _) (Nat.le_refl _)
  generalize hT1 : (T.setVm vm₁).pushCell { cls := cX, slots := kX.instanceTypes.map defaultValue, vm := .none } = T1 at X₁ st1
  have hcat : (Value.ref T.heap.size).category = 1 := rfl
  have hcellA : T1.heap[T.heap.size]? = some (freshCell cX kX) := by rw [← hT1]; exact State.heap_pushCell_size _ _
  have d3' : decode c.code (pc + 3) = .ok (.dup, 1) := by rw [hb]; exact d3
  have d4' : decode c.code (pc + 4) = .ok (.ldc is, 2) := by rw [hb]; exact d4
  have hstr' : vk_R own is text sa s' := vk_R.warm hW0 hstr
  obtain ⟨V, ce, L, Z, hL, hlt, hcl9, hvm9, st⟩ := vx_ctorMadeS X₁ hexec htr (own := own) (cls := cls) (names := names) (ic := ic) hown' hcls hnames h (fun x hx => nomatch hx) hfX hkX hcellA (by rw [hhp]; exact Nat.le_refl _) (msg := .ref sa) rfl
    (g := { method := m, pc := pc + 6, locals := ls, stack := .ref sa :: .ref T.heap.size :: .ref T.heap.size :: rest, locked := none }) rfl hsize (rest := rest) rfl
    (by rw [hb]; exact d6) hRframes (by simp only [List.map_cons, List.sum_cons, hcat]; omega)
  have Z0 := Stand.forget (locs := []) Z (fun y hy => by rw [hL y hy, hhp]; exact Nat.le_refl _)
  obtain ⟨f1, f2⟩ := vx_frame Z0.same
  rw [hhp] at f1 f2
  have hcid : ce.cls = D.1 ci := by
    rw [hcl9]
    have h1 := (hK.1 ci _ hc).2.1
    rw [hvm] at hfX
    exact Option.some.inj (hfX.symm.trans h1)
  have hh : (V.setCell T.heap.size ce).heap[T.heap.size]? = some ce := heapAt_setCell_self (s := V) ce hlt
  subst hA'
  have X5 := vx_back9 X Y Z0
  have X6 : Stand p l e R s m args below meth c (V.setCell T.heap.size ce) locs (cells + 1) (slots + 6) := { X5 with same := X5.same.mono (by omega) (by omega) }
  have hk9 : ∀ (k : Nat) (x : Nat × va_E), ws[k]? = some x → (V.setCell T.heap.size ce).heap[x.1]? = T.heap[x.1]? := fun k x hx => f2 x.1 ((hP k x hx).lt) (fun z hz => nomatch hz)
  obtain ⟨t, a1, b1⟩ := kk T.heap.size (V.setCell T.heap.size ce).heap ((hP.kept hk9).app (fun k x hx => by
      have hz : k < 1 := (List.getElem?_eq_some_iff.mp hx).1
      rw [show k = 0 by omega] at hx
      cases hx
      exact ⟨_, hc, ce, hh, hcid, hvm9, fun k hk => absurd hk (Nat.not_lt_zero k)⟩)) (hD.push hP rfl (hA _ hS.1)) ⟨Nat.le_trans hS.1 f1, fun q h1 h2 => (f2 q (Nat.lt_of_lt_of_le h1 hS.1) (fun z hz => nomatch hz)).trans (hS.2.1 q h1 h2), hS.2.2⟩ _ rfl X6
  refine ⟨t, st1 _ ?_, b1⟩
  show Steps p.tables e below (T1.setTop { method := m, pc := pc + 3, locals := ls, stack := .ref T.heap.size :: rest, locked := none }) _
  jvm_step X₁.here [X₁.here.top, hexec, d3', Value.category]
  exact X₁.ldcString hexec (own := own) (text := text) (index := is) (a := sa) hown' hstr'.1 hstr'.2
    (g := { method := m, pc := pc + 4, locals := ls, stack := .ref T.heap.size :: .ref T.heap.size :: rest, locked := none }) rfl d4' _ (st _ a1)
/-- 'new E()' that isn't thrown at once: the object goes on the stack -/
theorem vx_make0 {cc : ByteArray} {pc : Nat} (hexec : p.tables.exec = Jvm.exec) (hb : c.code = cc) (hl : l.stackTraces = false) {own cls : String} {names : List String} {ik ic ci : Nat} {A : Nat → Prop} {T0 : u_T}
    (hown : s.vm.findClass own = some m.cls) (hcls : Bundle.fit cls = true) (hnames : ∀ n ∈ names, Bundle.fit n = true)
    (hk : (Cond.classLink own ik cls).before args s = true) (hini : (Cond.initialized cls).before args s = true) (hat : ∀ w ∈ vx_at0 own ic cls names, w.before args s = true)
    (hgood : ∀ w ∈ Cond.classLink own ik cls :: Cond.initialized cls :: vx_at0 own ic cls names, vx_ot w = true)
    (hU : vx_Zq Bundle.tN "UNASSIGNED_STACK" Bundle.steD A s s.heap) (hN : vx_Zq Bundle.tN "SUPPRESSED_SENTINEL" Bundle.listD A s s.heap) (hS : va_S A s.heap H locs) (hsize : ls.size = c.maxLocals)
    (d0 : decode cc pc = .ok (.new ik, 3)) (d3 : decode cc (pc + 3) = .ok (.dup, 1)) (d4 : decode cc (pc + 4) = .ok (.invokespecial ic, 3))
    (hK : va_K D cl tys s) (hP : va_P D cl ws H) (hD : va_D A ws) (hA : ∀ q, s.heap.size ≤ q → A q) (hc : cl[ci]? = some (cls, T0, 0))
    (hRframes : names.length + 3 < R.frames) (hRlocals : (rest.map fun v => v.category).sum + (13 * (names.length + 1) + 42) ≤ R.locals) (hRcells : cells + 1 ≤ R.cells) (hRslots : slots + 6 ≤ R.slots)
    (kk : ∀ (q : Nat) (H1 : Heap), va_P D cl (ws ++ [(q, .inr (ci, []))]) H1 → va_D A (ws ++ [(q, .inr (ci, []))]) → va_S A s.heap H1 locs → W p l e R s m args below meth c H1 locs (cells + 1) (slots + 6) Q (F0 m (pc + 7) ls (.ref q :: rest))) :
    W p l e R s m args below meth c H locs cells slots Q (F0 m pc ls rest) := by
  intro T hT X
  subst hT
  have htr : e.platform.stackTraces = false := (show e.platform.stackTraces = l.stackTraces by rw [X.admits.platform]).trans hl
  have Y := vx_rebase X (R' := { frames := R.frames, locals := R.locals, cells := 1, slots := 6 }) (Nat.le_refl _) (Nat.le_refl _) hRcells hRslots
  obtain ⟨s', hA'⟩ : ∃ z, z = (T.setVm s.vm).setFrames (.invoking m args :: below) := ⟨_, rfl⟩
  rw [← hA'] at Y
  have hvm : s'.vm = s.vm := by rw [hA']; rfl
  have hhp : s'.heap = T.heap := by rw [hA']; rfl
  have hW0 : s.WarmedH s'.vm := by rw [hvm]; exact State.WarmedH.refl s
  have hat' : ∀ w ∈ vx_at0 own ic cls names, w.before args s' = true := fun w hw => vx_ot_at hW0 hvm.symm (hgood w (List.mem_cons_of_mem _ (List.mem_cons_of_mem _ hw))) (hat w hw)
  have hk' : (Cond.classLink own ik cls).before args s' = true := vx_ot_at hW0 hvm.symm (hgood _ List.mem_cons_self) hk
  have hini' : (Cond.initialized cls).before args s' = true := vx_ot_at hW0 hvm.symm (hgood _ (List.mem_cons_of_mem _ List.mem_cons_self)) hini
  have hU' : vx_Zq Bundle.tN "UNASSIGNED_STACK" Bundle.steD A s' s'.heap := by rw [hhp]; exact vx_Zq.moved hW0.alike (hU.kept hS.2.1)
  have hN' : vx_Zq Bundle.tN "SUPPRESSED_SENTINEL" Bundle.listD A s' s'.heap := by rw [hhp]; exact vx_Zq.moved hW0.alike (hN.kept hS.2.1)
  have h : ∀ w ∈ Bundle.ownAtoms0 own ic cls names, w.before args s' = true := vx_own hat' (vx_isRefq hU'.1) (vx_isRefq hN'.1) hU'.2.word hN'.2.word
  have hown' : s'.vm.findClass own = some m.cls := by rw [hvm]; exact hown
  have hins : (Cond.instantiable cls 6).before args s' = true := h _ (by simp [Bundle.ownAtoms0])
  obtain ⟨vm₁, cX, kX, hfX, hkX, -, -, X₁, st1⟩ := Y.newCold hexec (own := own) (C := cls) (index := ik) (n := 6) hown' hk' hins hini'
    (g := F0 m pc ls rest) rfl (by rw [hb]; exact d0) (Nat.le_refl _) (Nat.le_refl _)
  generalize hT1 : (T.setVm vm₁).pushCell { cls := cX, slots := kX.instanceTypes.map defaultValue, vm := .none } = T1 at X₁ st1
  have hcat : (Value.ref T.heap.size).category = 1 := rfl
  have hcellA : T1.heap[T.heap.size]? = some (freshCell cX kX) := by rw [← hT1]; exact State.heap_pushCell_size _ _
  have d3' : decode c.code (pc + 3) = .ok (.dup, 1) := by rw [hb]; exact d3
  obtain ⟨V, ce, L, Z, hL, hlt, hcl9, hvm9, st⟩ := vx_ctorMade0 X₁ hexec htr (own := own) (cls := cls) (names := names) (ic := ic) hown' hcls hnames h (fun x hx => nomatch hx) hfX hkX hcellA (by rw [hhp]; exact Nat.le_refl _)
    (g := { method := m, pc := pc + 4, locals := ls, stack := .ref T.heap.size :: .ref T.heap.size :: rest, locked := none }) rfl hsize (rest := rest) rfl
    (by rw [hb]; exact d4) hRframes (by simp only [List.map_cons, List.sum_cons, hcat]; omega)
  have Z0 := Stand.forget (locs := []) Z (fun y hy => by rw [hL y hy, hhp]; exact Nat.le_refl _)
  obtain ⟨f1, f2⟩ := vx_frame Z0.same
  rw [hhp] at f1 f2
  have hcid : ce.cls = D.1 ci := by
    rw [hcl9]
    have h1 := (hK.1 ci _ hc).2.1
    rw [hvm] at hfX
    exact Option.some.inj (hfX.symm.trans h1)
  have hh : (V.setCell T.heap.size ce).heap[T.heap.size]? = some ce := heapAt_setCell_self (s := V) ce hlt
  subst hA'
  have X5 := vx_back9 X Y Z0
  have X6 : Stand p l e R s m args below meth c (V.setCell T.heap.size ce) locs (cells + 1) (slots + 6) := { X5 with same := X5.same.mono (by omega) (by omega) }
  have hk9 : ∀ (k : Nat) (x : Nat × va_E), ws[k]? = some x → (V.setCell T.heap.size ce).heap[x.1]? = T.heap[x.1]? := fun k x hx => f2 x.1 ((hP k x hx).lt) (fun z hz => nomatch hz)
  obtain ⟨t, a1, b1⟩ := kk T.heap.size (V.setCell T.heap.size ce).heap ((hP.kept hk9).app (fun k x hx => by
      have hz : k < 1 := (List.getElem?_eq_some_iff.mp hx).1
      rw [show k = 0 by omega] at hx
      cases hx
      exact ⟨_, hc, ce, hh, hcid, hvm9, fun k hk => absurd hk (Nat.not_lt_zero k)⟩)) (hD.push hP rfl (hA _ hS.1)) ⟨Nat.le_trans hS.1 f1, fun q h1 h2 => (f2 q (Nat.lt_of_lt_of_le h1 hS.1) (fun z hz => nomatch hz)).trans (hS.2.1 q h1 h2), hS.2.2⟩ _ rfl X6
  refine ⟨t, st1 _ ?_, b1⟩
  show Steps p.tables e below (T1.setTop { method := m, pc := pc + 3, locals := ls, stack := .ref T.heap.size :: rest, locked := none }) _
  jvm_step X₁.here [X₁.here.top, hexec, d3', Value.category]
  exact st _ a1
/-- 'throw x' of an object that was made before -/
theorem vx_athrow {cc : ByteArray} {pc : Nat} (hexec : p.tables.exec = Jvm.exec) (hb : c.code = cc) {q : Addr} (hdg : decode cc pc = .ok (.athrow, 1)) (k : vx_W p l e R s m args below meth c H locs cells slots Q (F0 m pc ls rest) q) : W p l e R s m args below meth c H locs cells slots Q (F0 m pc ls (.ref q :: rest)) := by
  intro T hT X
  obtain ⟨t, st, hq⟩ := k T hT X
  refine ⟨t, ?_, hq⟩
  have hdg' : decode c.code pc = .ok (.athrow, 1) := by rw [hb]; exact hdg
  jvm_step X.here [X.here.top, hexec, hdg', athrow.wp_sem]
  exact st
end VXK2
/-! ===== END ===== -/
/-! ===== BEGIN a constructor that throws (launches without stack traces) ===== -/
section VXIA
variable {p : Program} {l : Launch} {e : Env} {R : Room} {s : State} {m : MethodId} {args : Array Value} {below : List Frame} {meth : Method} {c : Code} {T : State} {locs : List Loc} {cells slots : Nat}
theorem vx_callI (X : Stand p l e R s m args below meth c T locs cells slots) (hexec : p.tables.exec = Jvm.exec) {own : String} {index : Nat} {y : MethodName} {bytes : ByteArray} {maxL : Nat}
    (hown : s.vm.findClass own = some m.cls) (hy1 : y.name = "<init>") (hlink : (Cond.methodLink own index y).before args s = true) (hinst : (Cond.instanceMethod y).before args s = true)
    (hcode : (Cond.code y bytes maxL none).before args s = true) (hy : y.cls ≠ "java/lang/invoke/MethodHandle" ∧ y.cls ≠ "java/lang/invoke/VarHandle")
    {W9 : Nat} {Pre : Pt → Array Value → Prop} {Post : Pt → Array Value → Option Value → Pt → Prop} {PostX : Pt → Array Value → Addr → Pt → Prop} (hK : vx_Back l R p e below s args y 3 W9 Pre Post PostX)
    {g : JFrame} (hg : g.method = m) (hsize : g.locals.size = c.maxLocals) {a : Addr} {argsL rest : List Value} (hlen : ∀ sig, parseMethodDescriptor y.desc = some sig → argsL.length = sig.parameters.length)
    (hstack : g.stack = argsL.reverse ++ .ref a :: rest) (hW : 2 * g.monitorRoom + (rest.map fun v => v.category).sum ≤ W9) (hdg : decode c.code g.pc = .ok (.invokespecial index, 3))
    (hpre : ∀ vm₁, s.WarmedH vm₁ → Pre ⟨T.setVm vm₁, locs, cells, slots⟩ (Value.ref a :: argsL).toArray) :
    (∃ (v : Option Value) (vm₁ : Vm) (B : Pt), s.WarmedH vm₁ ∧ Stand p l e R s m args below meth c B.U B.locs B.cells B.slots ∧ Post ⟨T.setVm vm₁, locs, cells, slots⟩ (Value.ref a :: argsL).toArray v B ∧
      ∀ target, Steps p.tables e below (B.U.setTop { g with pc := g.pc + 3, stack := v.toList ++ rest }) target → Steps p.tables e below (T.setTop g) target) ∨
    (∃ (q : Addr) (vm₁ : Vm) (B : Pt), s.WarmedH vm₁ ∧ Stand p l e R s m args below meth c B.U B.locs B.cells B.slots ∧ PostX ⟨T.setVm vm₁, locs, cells, slots⟩ (Value.ref a :: argsL).toArray q B ∧
      Steps p.tables e below (T.setTop g) ((B.U.setTop { g with stack := rest }).pushFrame (.throwing q))) := by
  subst hg
  have hpl : e.platform.magicAccessors = ({} : Platform).magicAccessors := by rw [X.admits.platform]
  obtain ⟨mk, methM, cM, kP, vm₁, hnamed, hmethM, hcodeM, -, hlocalsM, -, hkP, -, hW₁, hstep₁⟩ := Steps.initColdArgs (e := e) X.here hexec X.warmed hpl hown hy1 hy hlink hinst hcode (f := g) rfl hlen hstack hdg
  have X₁ := X.noted hW₁
  rcases hK g.method meth c ⟨T.setVm vm₁, locs, cells, slots⟩ { g with stack := rest } (.invokespecial index) mk (Value.ref a :: argsL).toArray X₁ rfl hsize hdg hW (X₁.named hnamed) (hpre vm₁ X₁.warmed) with ⟨v, B, X', hpost, hsteps⟩ | ⟨q, B, X', hpost, hsteps⟩
  · exact Or.inl ⟨v, vm₁, B, X₁.warmed, X', hpost, fun target h => hstep₁ _ fun acts => by rw [doInvoke_state]; exact hsteps.trans h⟩
  · exact Or.inr ⟨q, vm₁, B, X₁.warmed, X', hpost, hstep₁ _ fun acts => by rw [doInvoke_state]; exact hsteps⟩
end VXIA
section VXIB
variable {p : Program} {l : Launch} {e : Env} {R : Room} {s : State} {m : MethodId} {args : Array Value} {below : List Frame} {meth : Method} {c : Code} {H : Heap} {locs : List Loc} {cells slots : Nat}
variable {y : MethodName} {bytes cc : ByteArray} {maxL nL mc ms n index : Nat} {ret : Option FieldType} {ws : List Cond} {rm : Room} {Pc : Array Value → State → Prop} {Qc : Array Value → State → Outcome → State → Prop} {XC : String → State → State → Prop} {free : Addr → Prop} {Ts : List Cond} {own C : String} {b : Addr} {As rest : List Value} {g : JFrame}
theorem vx_runI (S : CallFix p m c cc nL s args Ts own) (hM : vx_Met l y ws rm Pc Qc XC mc ms free) (cw : CallB R s args own index y bytes maxL none ws rm mc ms n ∧ y.name = "<init>" ∧ (Cond.instanceMethod y).before args s = true) (hp : PreS s H Pc (.ref b :: As))
    (hg : g.method = m) (hn : As.length = n) (hsize : g.locals.size = nL) (hstack : g.stack = As.reverse ++ .ref b :: rest) (hW : 2 * g.monitorRoom + (rest.map fun v => v.category).sum ≤ 8) (hdg : decode cc g.pc = .ok (.invokespecial index, 3)) (hf : cells + mc ≤ R.cells ∧ slots + ms ≤ R.slots) :
    vx_Run p l e R s m args below meth c H locs cells slots mc ms g rest (Qc (Value.ref b :: As).toArray) XC free := by
  have hK : vx_Back l R p e below s args y 3 8 (PreOf R mc ms Pc) (PostOf Qc mc ms free) (vx_Post XC mc ms free) := vx_callBack cw.1 hM hp.1
  obtain ⟨⟨-, -, -, -, -, -, hcode, -, hy, hlen, hl⟩, hy1, hin⟩ := cw
  obtain ⟨hx, hb, hml, ho, -⟩ := S
  have hPc := hp.2
  intro T hT X
  rcases vx_callI X hx (bytes := bytes) (maxL := maxL) ho hy1 hl hin hcode hy hK hg (hsize.trans hml.symm) (a := b) (argsL := As) (rest := rest) (fun sig h => hn.trans (hlen sig h)) hstack hW (by rw [hb]; exact hdg)
    (fun vm₁ hW₁ => ⟨hf.1, hf.2, hPc (T.setVm vm₁) hT hW₁⟩) with ⟨v, vm₁, ⟨U', l2, c2, s2⟩, hW₁, X', ⟨g', mk, t, L, e1, e2, hq, h1, hL, h2, h3⟩, st⟩ | ⟨q, vm₁, ⟨U', l2, c2, s2⟩, hW₁, X', ⟨g', mk, t, L, E, ce, e1, e2, hq, hce, hcv, hcl, h1, hL, h2, h3⟩, st⟩
  · dsimp only [Pt.U, Pt.locs, Pt.cells, Pt.slots] at X' e1 e2 h1 h2 h3 st
    subst h1; subst h2; subst h3
    exact Or.inl ⟨v, (T.setVm vm₁).calling g' mk (Value.ref b :: As).toArray, t, U', L, hT, X', hL, e1, e2, hq, st⟩
  · dsimp only [Pt.U, Pt.locs, Pt.cells, Pt.slots] at X' e1 e2 h1 h2 h3 st hcl
    subst h1; subst h2; subst h3
    exact Or.inr ⟨q, (T.setVm vm₁).calling g' mk (Value.ref b :: As).toArray, t, U', L, E, ce, hT, X', hL, e1, e2, hq, hce, hcv, vx_cls hW₁ hcl, st⟩
end VXIB
/-! ===== END ===== -/
/-! ===== BEGIN a private constructor of a nest mate that throws ===== -/
section VXIC
variable {p : Program} {l : Launch} {e : Env} {R : Room} {s : State} {m : MethodId} {args : Array Value} {below : List Frame} {meth : Method} {c : Code} {T : State} {locs : List Loc} {cells slots : Nat}
theorem vx_callIN (X : Stand p l e R s m args below meth c T locs cells slots) (hexec : p.tables.exec = Jvm.exec) {own : String} {index : Nat} {host : String} {y : MethodName} {bytes : ByteArray} {maxL : Nat}
    (hown : s.vm.findClass own = some m.cls) (hy1 : y.name = "<init>") (hlink : (Cond.methodLinkNest own index y host).before args s = true) (hinst : (Cond.instanceMethod y).before args s = true)
    (hcode : (Cond.code y bytes maxL none).before args s = true) (hy : y.cls ≠ "java/lang/invoke/MethodHandle" ∧ y.cls ≠ "java/lang/invoke/VarHandle")
    {W9 : Nat} {Pre : Pt → Array Value → Prop} {Post : Pt → Array Value → Option Value → Pt → Prop} {PostX : Pt → Array Value → Addr → Pt → Prop} (hK : vx_Back l R p e below s args y 3 W9 Pre Post PostX)
    {g : JFrame} (hg : g.method = m) (hsize : g.locals.size = c.maxLocals) {a : Addr} {argsL rest : List Value} (hlen : ∀ sig, parseMethodDescriptor y.desc = some sig → argsL.length = sig.parameters.length)
    (hstack : g.stack = argsL.reverse ++ .ref a :: rest) (hW : 2 * g.monitorRoom + (rest.map fun v => v.category).sum ≤ W9) (hdg : decode c.code g.pc = .ok (.invokespecial index, 3))
    (hpre : ∀ vm₁, s.WarmedH vm₁ → Pre ⟨T.setVm vm₁, locs, cells, slots⟩ (Value.ref a :: argsL).toArray) :
    (∃ (v : Option Value) (vm₁ : Vm) (B : Pt), s.WarmedH vm₁ ∧ Stand p l e R s m args below meth c B.U B.locs B.cells B.slots ∧ Post ⟨T.setVm vm₁, locs, cells, slots⟩ (Value.ref a :: argsL).toArray v B ∧
      ∀ target, Steps p.tables e below (B.U.setTop { g with pc := g.pc + 3, stack := v.toList ++ rest }) target → Steps p.tables e below (T.setTop g) target) ∨
    (∃ (q : Addr) (vm₁ : Vm) (B : Pt), s.WarmedH vm₁ ∧ Stand p l e R s m args below meth c B.U B.locs B.cells B.slots ∧ PostX ⟨T.setVm vm₁, locs, cells, slots⟩ (Value.ref a :: argsL).toArray q B ∧
      Steps p.tables e below (T.setTop g) ((B.U.setTop { g with stack := rest }).pushFrame (.throwing q))) := by
  subst hg
  have hpl : e.platform.magicAccessors = ({} : Platform).magicAccessors := by rw [X.admits.platform]
  obtain ⟨mk, methM, cM, kP, vm₁, hnamed, hmethM, hcodeM, -, hlocalsM, -, hkP, -, hW₁, hstep₁⟩ := Steps.initColdArgsNest (e := e) X.here hexec X.warmed hpl hown hy1 hy hlink hinst hcode (f := g) rfl hlen hstack hdg
  have X₁ := X.noted hW₁
  rcases hK g.method meth c ⟨T.setVm vm₁, locs, cells, slots⟩ { g with stack := rest } (.invokespecial index) mk (Value.ref a :: argsL).toArray X₁ rfl hsize hdg hW (X₁.named hnamed) (hpre vm₁ X₁.warmed) with ⟨v, B, X', hpost, hsteps⟩ | ⟨q, B, X', hpost, hsteps⟩
  · exact Or.inl ⟨v, vm₁, B, X₁.warmed, X', hpost, fun target h => hstep₁ _ fun acts => by rw [doInvoke_state]; exact hsteps.trans h⟩
  · exact Or.inr ⟨q, vm₁, B, X₁.warmed, X', hpost, hstep₁ _ fun acts => by rw [doInvoke_state]; exact hsteps⟩
end VXIC
section VXID
variable {p : Program} {l : Launch} {e : Env} {R : Room} {s : State} {m : MethodId} {args : Array Value} {below : List Frame} {meth : Method} {c : Code} {H : Heap} {locs : List Loc} {cells slots : Nat}
theorem vx_runIN {y : MethodName} {bytes cc : ByteArray} {maxL nL mc ms n index : Nat} {ws : List Cond} {rm : Room} {Pc : Array Value → State → Prop} {Qc : Array Value → State → Outcome → State → Prop} {XC : String → State → State → Prop} {free : Addr → Prop} {Ts : List Cond} {own host : String} {b : Addr} {As rest : List Value} {g : JFrame}
    (S : CallFix p m c cc nL s args Ts own) (hM : vx_Met l y ws rm Pc Qc XC mc ms free) (cw : va_CN R s args own index y host bytes maxL none ws rm mc ms n ∧ y.name = "<init>" ∧ (Cond.instanceMethod y).before args s = true) (hp : PreS s H Pc (.ref b :: As))
    (hg : g.method = m) (hn : As.length = n) (hsize : g.locals.size = nL) (hstack : g.stack = As.reverse ++ .ref b :: rest) (hW : 2 * g.monitorRoom + (rest.map fun v => v.category).sum ≤ 8) (hdg : decode cc g.pc = .ok (.invokespecial index, 3)) (hf : cells + mc ≤ R.cells ∧ slots + ms ≤ R.slots) :
    vx_Run p l e R s m args below meth c H locs cells slots mc ms g rest (Qc (Value.ref b :: As).toArray) XC free := by
  obtain ⟨⟨⟨hrc, hrs, hfr, hlo, hws, hcw⟩, hcode, hini, hy, hlen, hl⟩, hx1, hx2⟩ := cw
  have hK : vx_Back l R p e below s args y 3 8 (PreOf R mc ms Pc) (PostOf Qc mc ms free) (vx_Post XC mc ms free) := vx_back (bytes := bytes) (maxL := maxL) (ret := none) hM hp.1 hrc hrs hfr hlo hws hcw (fun a' U hW => word_at hW (Or.inl (by first | rfl | simp [Cond.onTables, Cond.keeps, Cond.steady])) hini)
  obtain ⟨hx, hb, hml, ho, -⟩ := S
  have hPc := hp.2
  intro T hT X
  rcases vx_callIN X hx (bytes := bytes) (maxL := maxL) ho hx1 hl hx2 hcode hy hK hg (hsize.trans hml.symm) (a := b) (argsL := As) (rest := rest) (fun sig h => hn.trans (hlen sig h)) hstack hW (by rw [hb]; exact hdg)
    (fun vm₁ hW₁ => ⟨hf.1, hf.2, hPc (T.setVm vm₁) hT hW₁⟩) with ⟨v, vm₁, ⟨U', l2, c2, s2⟩, hW₁, X', ⟨g', mk, t, L, e1, e2, hq, h1, hL, h2, h3⟩, st⟩ | ⟨q, vm₁, ⟨U', l2, c2, s2⟩, hW₁, X', ⟨g', mk, t, L, E, ce, e1, e2, hq, hce, hcv, hcl, h1, hL, h2, h3⟩, st⟩
  · dsimp only [Pt.U, Pt.locs, Pt.cells, Pt.slots] at X' e1 e2 h1 h2 h3 st
    subst h1; subst h2; subst h3
    exact Or.inl ⟨v, (T.setVm vm₁).calling g' mk (Value.ref b :: As).toArray, t, U', L, hT, X', hL, e1, e2, hq, st⟩
  · dsimp only [Pt.U, Pt.locs, Pt.cells, Pt.slots] at X' e1 e2 h1 h2 h3 st hcl
    subst h1; subst h2; subst h3
    exact Or.inr ⟨q, (T.setVm vm₁).calling g' mk (Value.ref b :: As).toArray, t, U', L, E, ce, hT, X', hL, e1, e2, hq, hce, hcv, vx_cls hW₁ hcl, st⟩
end VXID
/-! ===== END ===== -/
/-! ===== BEGIN a method of a class above, found by the receiver, that may throw (follows va_callVU, va_runU of this kit) ===== -/
section
variable {p : Program} {l : Launch} {e : Env} {R : Room} {s : State} {m : MethodId} {args : Array Value} {below : List Frame} {meth : Method} {c : Code} {H : Heap} {locs : List Loc} {cells slots : Nat}
theorem vx_callVU {T : State} {locs : List Loc} {cells slots : Nat} (X : Stand p l e R s m args below meth c T locs cells slots) (hexec : p.tables.exec = Jvm.exec) {own C owner : String} {index : Nat} {x y : MethodName} {bytes : ByteArray} {maxL : Nat} {ret : Option FieldType}
    (hown : s.vm.findClass own = some m.cls) (hlink : (Cond.methodLink own index x).before args s = true) (hsame : (Cond.sameMethod x.cls owner x.name x.desc).before args s = true)
    (hd0 : va_Decl s ⟨owner, x.name, x.desc⟩) (howner : owner ≠ "java/lang/invoke/MethodHandle" ∧ owner ≠ "java/lang/invoke/VarHandle")
    (hsel : (Cond.selects C x y).before args s = true) (hinst : (Cond.instanceMethod y).before args s = true) (hcode : (Cond.code y bytes maxL ret).before args s = true)
    {W : Nat} {Pre : Pt → Array Value → Prop} {Post : Pt → Array Value → Option Value → Pt → Prop} {PostX : Pt → Array Value → Addr → Pt → Prop} (hK : vx_Back l R p e below s args y 3 W Pre Post PostX)
    {b : Addr} {cellB : Cell} (hcell : T.heap[b]? = some cellB) (hobj : cellB.vm.isStatics = false) (hcls : s.vm.findClass C = some cellB.cls)
    {g : JFrame} (hg : g.method = m) (hsize : g.locals.size = c.maxLocals) {argsL rest : List Value} (hlen : ∀ sig, parseMethodDescriptor x.desc = some sig → argsL.length = sig.parameters.length)
    (hstack : g.stack = argsL.reverse ++ .ref b :: rest) (hW : 2 * g.monitorRoom + (rest.map fun v => v.category).sum ≤ W) (hdg : decode c.code g.pc = .ok (.invokevirtual index, 3))
    (hpre : ∀ vm₁, s.WarmedH vm₁ → Pre ⟨T.setVm vm₁, locs, cells, slots⟩ (Value.ref b :: argsL).toArray) :
    (∃ (v : Option Value) (vm₁ : Vm) (B : Pt), s.WarmedH vm₁ ∧ Stand p l e R s m args below meth c B.U B.locs B.cells B.slots ∧ Post ⟨T.setVm vm₁, locs, cells, slots⟩ (Value.ref b :: argsL).toArray v B ∧
      ∀ target, Steps p.tables e below (B.U.setTop { g with pc := g.pc + 3, stack := v.toList ++ rest }) target → Steps p.tables e below (T.setTop g) target) ∨
    (∃ (q : Addr) (vm₁ : Vm) (B : Pt), s.WarmedH vm₁ ∧ Stand p l e R s m args below meth c B.U B.locs B.cells B.slots ∧ PostX ⟨T.setVm vm₁, locs, cells, slots⟩ (Value.ref b :: argsL).toArray q B ∧
      Steps p.tables e below (T.setTop g) ((B.U.setTop { g with stack := rest }).pushFrame (.throwing q))) := by
  obtain ⟨r0, r, hn, hrm, hstR, hsigR⟩ := hd0
  obtain ⟨cn, ck, r1, hcn, hck, hni, hf, hn1⟩ := Cond.sameMethod_found hsame
  cases hn.symm.trans hn1
  obtain ⟨mk, methM, hnamed, hmethM, -, habM⟩ := Cond.instanceMethod_spec hinst
  obtain ⟨c2, r2, m2, q1, q2, q3, q4, kP, hkP, hkPi⟩ := Cond.selects_spec hsel
  cases hcls.symm.trans q1
  cases hf.symm.trans q2
  cases hnamed.symm.trans q3
  have hselP : selectMethod e.platform s.vm cellB.cls r0 = .method mk := by rw [Launch.admits_selectMethod X.admits]; exact q4
  obtain ⟨vm₁, X₁, hstep₁⟩ := X.invokevirtualUp hexec hown hlink hsame howner hn hrm hstR (a := b) (cell := cellB) hcell
    (fun z h => by rw [h] at hobj; cases hobj) hselP hmethM habM hkP hkPi (g := g) hg (argsL := argsL) (rest := rest) (hlen _ hsigR) hstack hdg
  rcases hK m meth c ⟨T.setVm vm₁, locs, cells, slots⟩ { g with stack := rest } (.invokevirtual index) mk (Value.ref b :: argsL).toArray X₁ hg hsize hdg hW (X₁.named hnamed) (hpre vm₁ X₁.warmed) with ⟨v, B, X', hpost, hsteps⟩ | ⟨q, B, X', hpost, hsteps⟩
  · exact Or.inl ⟨v, vm₁, B, X₁.warmed, X', hpost, fun target h => hstep₁ _ fun acts => by rw [doInvoke_state]; exact hsteps.trans h⟩
  · exact Or.inr ⟨q, vm₁, B, X₁.warmed, X', hpost, hstep₁ _ fun acts => by rw [doInvoke_state]; exact hsteps⟩
theorem vx_runU {x y : MethodName} {bytes cc : ByteArray} {maxL nL mc ms n index : Nat} {ret : Option FieldType} {ws : List Cond} {rm : Room} {Pc : Array Value → State → Prop} {Qc : Array Value → State → Outcome → State → Prop} {XC : String → State → State → Prop} {free : Addr → Prop} {Ts : List Cond} {own C owner : String} {b : Addr} {As rest : List Value} {g : JFrame}
    (S : CallFix p m c cc nL s args Ts own) (hM : vx_Met l y ws rm Pc Qc XC mc ms free) (cw : va_CU R s args own C owner index x y bytes maxL ret ws rm mc ms n) (hp : PreV s H C b Pc As)
    (hg : g.method = m) (hn : As.length = n) (hsize : g.locals.size = nL) (hstack : g.stack = As.reverse ++ .ref b :: rest) (hW : 2 * g.monitorRoom + (rest.map fun v => v.category).sum ≤ 8) (hdg : decode cc g.pc = .ok (.invokevirtual index, 3)) (hf : cells + mc ≤ R.cells ∧ slots + ms ≤ R.slots) :
    vx_Run p l e R s m args below meth c H locs cells slots mc ms g rest (Qc (Value.ref b :: As).toArray) XC free := by
  obtain ⟨hrc, hrs, hfr, hlo, hws, hcw⟩ := cw.back
  have hini := cw.init
  have hK : vx_Back l R p e below s args y 3 8 (PreOf R mc ms Pc) (PostOf Qc mc ms free) (vx_Post XC mc ms free) := vx_back (bytes := bytes) (maxL := maxL) (ret := ret) hM hp.1 hrc hrs hfr hlo hws hcw (fun a' U hW => word_at hW (Or.inl (by first | rfl | simp [Cond.onTables, Cond.keeps, Cond.steady])) hini)
  obtain ⟨hx, hb, hml, ho, -⟩ := S
  obtain ⟨-, ⟨cellB, hcB, hoB, hclB⟩, hPc⟩ := hp
  intro T hT X
  rcases vx_callVU X hx (C := C) (owner := owner) (bytes := bytes) (maxL := maxL) (ret := ret) ho cw.link cw.same cw.decl cw.notMH cw.sel cw.inst cw.code hK (by rw [hT]; exact hcB) hoB hclB hg (hsize.trans hml.symm) (argsL := As) (rest := rest) (fun sig h => hn.trans (cw.len sig h)) hstack hW (by rw [hb]; exact hdg)
    (fun vm₁ hW₁ => ⟨hf.1, hf.2, hPc (T.setVm vm₁) hT hW₁⟩) with ⟨v, vm₁, ⟨U', l2, c2, s2⟩, hW₁, X', ⟨g', mk, t, L, e1, e2, hq, h1, hL, h2, h3⟩, st⟩ | ⟨q, vm₁, ⟨U', l2, c2, s2⟩, hW₁, X', ⟨g', mk, t, L, E, ce, e1, e2, hq, hce, hcv, hcl, h1, hL, h2, h3⟩, st⟩
  · dsimp only [Pt.U, Pt.locs, Pt.cells, Pt.slots] at X' e1 e2 h1 h2 h3 st
    subst h1; subst h2; subst h3
    exact Or.inl ⟨v, (T.setVm vm₁).calling g' mk (Value.ref b :: As).toArray, t, U', L, hT, X', hL, e1, e2, hq, st⟩
  · dsimp only [Pt.U, Pt.locs, Pt.cells, Pt.slots] at X' e1 e2 h1 h2 h3 st hcl
    subst h1; subst h2; subst h3
    exact Or.inr ⟨q, (T.setVm vm₁).calling g' mk (Value.ref b :: As).toArray, t, U', L, E, ce, hT, X', hL, e1, e2, hq, hce, hcv, vx_cls hW₁ hcl, st⟩
end
/-! ===== END ===== -/
/-! ===== BEGIN super.m(..) that may throw (follows va_callSU, va_runSU) ===== -/
section
variable {p : Program} {l : Launch} {e : Env} {R : Room} {s : State} {m : MethodId} {args : Array Value} {below : List Frame} {meth : Method} {c : Code} {H : Heap} {locs : List Loc} {cells slots : Nat}
theorem vx_callSU {T : State} {locs : List Loc} {cells slots : Nat} (X : Stand p l e R s m args below meth c T locs cells slots) (hexec : p.tables.exec = Jvm.exec) {own : String} {index : Nat} {y : MethodName} {bytes : ByteArray} {maxL : Nat} {ret : Option FieldType}
    (hown : s.vm.findClass own = some m.cls) (hlink : (Cond.methodLink own index y).before args s = true) (hsame : (Cond.sameMethod y.cls y.cls y.name y.desc).before args s = true) (hsup : (Cond.superclass own y.cls).before args s = true)
    (hinst : (Cond.instanceMethod y).before args s = true) (hcode : (Cond.code y bytes maxL ret).before args s = true) (hno : y.name ≠ "<init>")
    {W : Nat} {Pre : Pt → Array Value → Prop} {Post : Pt → Array Value → Option Value → Pt → Prop} {PostX : Pt → Array Value → Addr → Pt → Prop} (hK : vx_Back l R p e below s args y 3 W Pre Post PostX)
    {b : Addr} {cellB : Cell} {kB : Class} (hcell : T.heap[b]? = some cellB) (hobj : cellB.vm.isStatics = false) (hkB : s.vm.classes[cellB.cls]? = some kB)
    {g : JFrame} (hg : g.method = m) (hsize : g.locals.size = c.maxLocals) {argsL rest : List Value} (hlen : ∀ sig, parseMethodDescriptor y.desc = some sig → argsL.length = sig.parameters.length)
    (hstack : g.stack = argsL.reverse ++ .ref b :: rest) (hW : 2 * g.monitorRoom + (rest.map fun v => v.category).sum ≤ W) (hdg : decode c.code g.pc = .ok (.invokespecial index, 3))
    (hpre : ∀ vm₁, s.WarmedH vm₁ → Pre ⟨T.setVm vm₁, locs, cells, slots⟩ (Value.ref b :: argsL).toArray) :
    (∃ (v : Option Value) (vm₁ : Vm) (B : Pt), s.WarmedH vm₁ ∧ Stand p l e R s m args below meth c B.U B.locs B.cells B.slots ∧ Post ⟨T.setVm vm₁, locs, cells, slots⟩ (Value.ref b :: argsL).toArray v B ∧
      ∀ target, Steps p.tables e below (B.U.setTop { g with pc := g.pc + 3, stack := v.toList ++ rest }) target → Steps p.tables e below (T.setTop g) target) ∨
    (∃ (q : Addr) (vm₁ : Vm) (B : Pt), s.WarmedH vm₁ ∧ Stand p l e R s m args below meth c B.U B.locs B.cells B.slots ∧ PostX ⟨T.setVm vm₁, locs, cells, slots⟩ (Value.ref b :: argsL).toArray q B ∧
      Steps p.tables e below (T.setTop g) ((B.U.setTop { g with stack := rest }).pushFrame (.throwing q))) := by
  obtain ⟨mk, methM, hnamed, hmethM, hstM, habM⟩ := Cond.instanceMethod_spec hinst
  obtain ⟨methM', cM, hmethM', -, -, -, -, -, -, hsigM⟩ := Cond.code_spec hnamed hcode
  cases hmethM.symm.trans hmethM'
  obtain ⟨ps, dk, kp, hps, hdk, hkp, hsuper, -, -, hnid⟩ := Cond.superclass_spec hown hsup
  have hn : s.methodNamed? ⟨y.cls, y.name, y.desc⟩ = some mk := hnamed
  have hpm : ps = mk.cls := Option.some.inj (hps.symm.trans (findClass_of_methodNamed hnamed))
  have hsub : s.vm.isSubclass ps mk.cls = true := by rw [hpm]; simp [Vm.isSubclass, Vm.isSubclassAux]
  obtain ⟨vm₁, X₁, hstep₁⟩ := X.invokespecialUp hexec hown hlink hsame hn hmethM hstM habM hno hdk hnid hps hsuper hsub (a := b) (cell := cellB) hcell
    (fun z h => by rw [h] at hobj; cases hobj) hkB (g := g) hg (argsL := argsL) (rest := rest) (hlen _ hsigM) hstack hdg
  rcases hK m meth c ⟨T.setVm vm₁, locs, cells, slots⟩ { g with stack := rest } (.invokespecial index) mk (Value.ref b :: argsL).toArray X₁ hg hsize hdg hW (X₁.named hnamed) (hpre vm₁ X₁.warmed) with ⟨v, B, X', hpost, hsteps⟩ | ⟨q, B, X', hpost, hsteps⟩
  · exact Or.inl ⟨v, vm₁, B, X₁.warmed, X', hpost, fun target h => hstep₁ _ (by rw [doInvoke_state]; exact hsteps.trans h)⟩
  · exact Or.inr ⟨q, vm₁, B, X₁.warmed, X', hpost, hstep₁ _ (by rw [doInvoke_state]; exact hsteps)⟩
theorem vx_runSU {y : MethodName} {bytes cc : ByteArray} {maxL nL mc ms n index : Nat} {ret : Option FieldType} {ws : List Cond} {rm : Room} {Pc : Array Value → State → Prop} {Qc : Array Value → State → Outcome → State → Prop} {XC : String → State → State → Prop} {free : Addr → Prop} {Ts : List Cond} {own C : String} {cC : ClassId} {b : Addr} {As rest : List Value} {g : JFrame}
    (hat : ClassAt s C cC) (S : CallFix p m c cc nL s args Ts own) (hM : vx_Met l y ws rm Pc Qc XC mc ms free) (cw : va_CS R s args own index y bytes maxL ret ws rm mc ms n) (hp : PreV s H C b Pc As)
    (hg : g.method = m) (hn : As.length = n) (hsize : g.locals.size = nL) (hstack : g.stack = As.reverse ++ .ref b :: rest) (hW : 2 * g.monitorRoom + (rest.map fun v => v.category).sum ≤ 8) (hdg : decode cc g.pc = .ok (.invokespecial index, 3)) (hf : cells + mc ≤ R.cells ∧ slots + ms ≤ R.slots) :
    vx_Run p l e R s m args below meth c H locs cells slots mc ms g rest (Qc (Value.ref b :: As).toArray) XC free := by
  obtain ⟨⟨hrc, hrs, hfr, hlo, hws, hcw⟩, hl1, hl2, hl3, hl4, hini, hcode, hno, hlen⟩ := cw
  have hK : vx_Back l R p e below s args y 3 8 (PreOf R mc ms Pc) (PostOf Qc mc ms free) (vx_Post XC mc ms free) := vx_back (bytes := bytes) (maxL := maxL) (ret := ret) hM hp.1 hrc hrs hfr hlo hws hcw (fun a' U hW => word_at hW (Or.inl (by first | rfl | simp [Cond.onTables, Cond.keeps, Cond.steady])) hini)
  obtain ⟨hx, hb, hml, ho, -⟩ := S
  obtain ⟨-, ⟨cellB, hcB, hoB, hclB⟩, hPc⟩ := hp
  obtain ⟨hfc, kB, hkB, -⟩ := hat
  cases hfc.symm.trans hclB
  intro T hT X
  rcases vx_callSU X hx (bytes := bytes) (maxL := maxL) (ret := ret) ho hl1 hl2 hl3 hl4 hcode hno hK (by rw [hT]; exact hcB) hoB hkB hg (hsize.trans hml.symm) (argsL := As) (rest := rest) (fun sig h => hn.trans (hlen sig h)) hstack hW (by rw [hb]; exact hdg)
    (fun vm₁ hW₁ => ⟨hf.1, hf.2, hPc (T.setVm vm₁) hT hW₁⟩) with ⟨v, vm₁, ⟨U', l2, c2, s2⟩, hW₁, X', ⟨g', mk, t, L, e1, e2, hq, h1, hL, h2, h3⟩, st⟩ | ⟨q, vm₁, ⟨U', l2, c2, s2⟩, hW₁, X', ⟨g', mk, t, L, E, ce, e1, e2, hq, hce, hcv, hcl, h1, hL, h2, h3⟩, st⟩
  · dsimp only [Pt.U, Pt.locs, Pt.cells, Pt.slots] at X' e1 e2 h1 h2 h3 st
    subst h1; subst h2; subst h3
    exact Or.inl ⟨v, (T.setVm vm₁).calling g' mk (Value.ref b :: As).toArray, t, U', L, hT, X', hL, e1, e2, hq, st⟩
  · dsimp only [Pt.U, Pt.locs, Pt.cells, Pt.slots] at X' e1 e2 h1 h2 h3 st hcl
    subst h1; subst h2; subst h3
    exact Or.inr ⟨q, (T.setVm vm₁).calling g' mk (Value.ref b :: As).toArray, t, U', L, E, ce, hT, X', hL, e1, e2, hq, hce, hcv, vx_cls hW₁ hcl, st⟩
end
/-! ===== END ===== -/
/-! ===== BEGIN a private method of a nest mate that may throw (follows va_callVN, va_callSN, va_runVN, va_runSN) ===== -/
section
variable {p : Program} {l : Launch} {e : Env} {R : Room} {s : State} {m : MethodId} {args : Array Value} {below : List Frame} {meth : Method} {c : Code} {H : Heap} {locs : List Loc} {cells slots : Nat}
variable {T : State}
theorem vx_callVN (X : Stand p l e R s m args below meth c T locs cells slots) (hexec : p.tables.exec = Jvm.exec) {own C : String} {index : Nat} {host : String} {y : MethodName} {bytes : ByteArray} {maxL : Nat} {ret : Option FieldType}
    (hown : s.vm.findClass own = some m.cls) (hlink : (Cond.methodLinkNest own index y host).before args s = true) (hinst : (Cond.instanceMethod y).before args s = true) (hsel : (Cond.selects C y y).before args s = true)
    (hcode : (Cond.code y bytes maxL ret).before args s = true) (hy : y.cls ≠ "java/lang/invoke/MethodHandle" ∧ y.cls ≠ "java/lang/invoke/VarHandle")
    {W : Nat} {Pre : Pt → Array Value → Prop} {Post : Pt → Array Value → Option Value → Pt → Prop} {PostX : Pt → Array Value → Addr → Pt → Prop} (hK : vx_Back l R p e below s args y 3 W Pre Post PostX)
    {b : Addr} {cellB : Cell} (hcell : T.heap[b]? = some cellB) (hobj : cellB.vm.isStatics = false) (hcls : s.vm.findClass C = some cellB.cls)
    {g : JFrame} (hg : g.method = m) (hsize : g.locals.size = c.maxLocals) {argsL rest : List Value} (hlen : ∀ sig, parseMethodDescriptor y.desc = some sig → argsL.length = sig.parameters.length)
    (hstack : g.stack = argsL.reverse ++ .ref b :: rest) (hW : 2 * g.monitorRoom + (rest.map fun v => v.category).sum ≤ W) (hdg : decode c.code g.pc = .ok (.invokevirtual index, 3))
    (hpre : ∀ vm₁, s.WarmedH vm₁ → Pre ⟨T.setVm vm₁, locs, cells, slots⟩ (Value.ref b :: argsL).toArray) :
    (∃ (v : Option Value) (vm₁ : Vm) (B : Pt), s.WarmedH vm₁ ∧ Stand p l e R s m args below meth c B.U B.locs B.cells B.slots ∧ Post ⟨T.setVm vm₁, locs, cells, slots⟩ (Value.ref b :: argsL).toArray v B ∧
      ∀ target, Steps p.tables e below (B.U.setTop { g with pc := g.pc + 3, stack := v.toList ++ rest }) target → Steps p.tables e below (T.setTop g) target) ∨
    (∃ (q : Addr) (vm₁ : Vm) (B : Pt), s.WarmedH vm₁ ∧ Stand p l e R s m args below meth c B.U B.locs B.cells B.slots ∧ PostX ⟨T.setVm vm₁, locs, cells, slots⟩ (Value.ref b :: argsL).toArray q B ∧
      Steps p.tables e below (T.setTop g) ((B.U.setTop { g with stack := rest }).pushFrame (.throwing q))) := by
  obtain ⟨mk, methM, hnamed, hmethM, hstM, habM⟩ := Cond.instanceMethod_spec hinst
  obtain ⟨methM', cM, hmethM', -, -, -, -, -, -, hsigM⟩ := Cond.code_spec hnamed hcode
  cases hmethM.symm.trans hmethM'
  obtain ⟨c2, r2, m2, q1, q2, q3, q4, kP, hkP, hkPi⟩ := Cond.selects_spec hsel
  cases hcls.symm.trans q1
  cases (State.methodFound?_of_named hnamed hy).symm.trans q2
  cases hnamed.symm.trans q3
  have hselP : selectMethod e.platform s.vm cellB.cls mk = .method mk := by rw [Launch.admits_selectMethod X.admits]; exact q4
  obtain ⟨vm₁, X₁, hstep₁⟩ := X.invokevirtualNest hexec hown hlink hnamed hmethM hstM hkP hkPi hy (a := b) (cell := cellB) hcell
    (fun z h => by rw [h] at hobj; cases hobj) hselP hmethM habM hkP hkPi (g := g) hg (argsL := argsL) (rest := rest) (hlen _ hsigM) hstack hdg
  rcases hK m meth c ⟨T.setVm vm₁, locs, cells, slots⟩ { g with stack := rest } (.invokevirtual index) mk (Value.ref b :: argsL).toArray X₁ hg hsize hdg hW (X₁.named hnamed) (hpre vm₁ X₁.warmed) with ⟨v, B, X', hpost, hsteps⟩ | ⟨q, B, X', hpost, hsteps⟩
  · exact Or.inl ⟨v, vm₁, B, X₁.warmed, X', hpost, fun target h => hstep₁ _ fun acts => by rw [doInvoke_state]; exact hsteps.trans h⟩
  · exact Or.inr ⟨q, vm₁, B, X₁.warmed, X', hpost, hstep₁ _ fun acts => by rw [doInvoke_state]; exact hsteps⟩
theorem vx_callSN (X : Stand p l e R s m args below meth c T locs cells slots) (hexec : p.tables.exec = Jvm.exec) {own : String} {index : Nat} {host : String} {y : MethodName} {bytes : ByteArray} {maxL : Nat} {ret : Option FieldType}
    (hown : s.vm.findClass own = some m.cls) (hlink : (Cond.methodLinkNest own index y host).before args s = true) (hstat : (Cond.static y).before args s = true) (hinit : (Cond.initialized y.cls).before args s = true)
    (hcode : (Cond.code y bytes maxL ret).before args s = true) (hy : y.cls ≠ "java/lang/invoke/MethodHandle" ∧ y.cls ≠ "java/lang/invoke/VarHandle")
    {W : Nat} {Pre : Pt → Array Value → Prop} {Post : Pt → Array Value → Option Value → Pt → Prop} {PostX : Pt → Array Value → Addr → Pt → Prop} (hK : vx_Back l R p e below s args y 3 W Pre Post PostX)
    {g : JFrame} (hg : g.method = m) (hsize : g.locals.size = c.maxLocals) {argsL rest : List Value} (hlen : ∀ sig, parseMethodDescriptor y.desc = some sig → argsL.length = sig.parameters.length)
    (hstack : g.stack = argsL.reverse ++ rest) (hW : 2 * g.monitorRoom + (rest.map fun v => v.category).sum ≤ W) (hdg : decode c.code g.pc = .ok (.invokestatic index, 3))
    (hpre : ∀ vm₁, s.WarmedH vm₁ → Pre ⟨T.setVm vm₁, locs, cells, slots⟩ argsL.toArray) :
    (∃ (v : Option Value) (vm₁ : Vm) (B : Pt), s.WarmedH vm₁ ∧ Stand p l e R s m args below meth c B.U B.locs B.cells B.slots ∧ Post ⟨T.setVm vm₁, locs, cells, slots⟩ argsL.toArray v B ∧
      ∀ target, Steps p.tables e below (B.U.setTop { g with pc := g.pc + 3, stack := v.toList ++ rest }) target → Steps p.tables e below (T.setTop g) target) ∨
    (∃ (q : Addr) (vm₁ : Vm) (B : Pt), s.WarmedH vm₁ ∧ Stand p l e R s m args below meth c B.U B.locs B.cells B.slots ∧ PostX ⟨T.setVm vm₁, locs, cells, slots⟩ argsL.toArray q B ∧
      Steps p.tables e below (T.setTop g) ((B.U.setTop { g with stack := rest }).pushFrame (.throwing q))) := by
  obtain ⟨mk, hnamed⟩ := Cond.code_named hcode
  obtain ⟨methM, cM, hmethM, -, -, -, -, -, -, hsigM⟩ := Cond.code_spec hnamed hcode
  have hstatic : methM.isStatic = true := Cond.static_spec hnamed hmethM hstat
  obtain ⟨kP, hkP, -⟩ := className_of_methodNamed hnamed
  have hinitP : kP.init = .initialized := Cond.initialized_spec (findClass_of_methodNamed hnamed) hkP hinit
  obtain ⟨vm₁, X₁, hstep₁⟩ := X.invokestaticNest hexec hown hlink hnamed hmethM hstatic hkP hinitP hy (g := g) hg (argsL := argsL) (rest := rest) (hlen _ hsigM) hstack hdg
  rcases hK m meth c ⟨T.setVm vm₁, locs, cells, slots⟩ { g with stack := rest } (.invokestatic index) mk argsL.toArray X₁ hg hsize hdg hW (X₁.named hnamed) (hpre vm₁ X₁.warmed) with ⟨v, B, X', hpost, hsteps⟩ | ⟨q, B, X', hpost, hsteps⟩
  · exact Or.inl ⟨v, vm₁, B, X₁.warmed, X', hpost, fun target h => hstep₁ _ fun acts => by rw [doInvoke_state]; exact hsteps.trans h⟩
  · exact Or.inr ⟨q, vm₁, B, X₁.warmed, X', hpost, hstep₁ _ fun acts => by rw [doInvoke_state]; exact hsteps⟩
theorem vx_runVN {y : MethodName} {bytes cc : ByteArray} {maxL nL mc ms n index : Nat} {ret : Option FieldType} {ws : List Cond} {rm : Room} {Pc : Array Value → State → Prop} {Qc : Array Value → State → Outcome → State → Prop} {XC : String → State → State → Prop} {free : Addr → Prop} {Ts : List Cond} {own C host : String} {b : Addr} {As rest : List Value} {g : JFrame}
    (S : CallFix p m c cc nL s args Ts own) (hM : vx_Met l y ws rm Pc Qc XC mc ms free) (cw : va_CN R s args own index y host bytes maxL ret ws rm mc ms n ∧ (Cond.instanceMethod y).before args s = true ∧ (Cond.selects C y y).before args s = true) (hp : PreV s H C b Pc As)
    (hg : g.method = m) (hn : As.length = n) (hsize : g.locals.size = nL) (hstack : g.stack = As.reverse ++ .ref b :: rest) (hW : 2 * g.monitorRoom + (rest.map fun v => v.category).sum ≤ 8) (hdg : decode cc g.pc = .ok (.invokevirtual index, 3)) (hf : cells + mc ≤ R.cells ∧ slots + ms ≤ R.slots) :
    vx_Run p l e R s m args below meth c H locs cells slots mc ms g rest (Qc (Value.ref b :: As).toArray) XC free := by
  obtain ⟨⟨⟨hrc, hrs, hfr, hlo, hws, hcw⟩, hcode, hini, hy, hlen, hl⟩, hx1, hx2⟩ := cw
  have hK : vx_Back l R p e below s args y 3 8 (PreOf R mc ms Pc) (PostOf Qc mc ms free) (vx_Post XC mc ms free) := vx_back (bytes := bytes) (maxL := maxL) (ret := ret) hM hp.1 hrc hrs hfr hlo hws hcw (fun a' U hW => word_at hW (Or.inl (by first | rfl | simp [Cond.onTables, Cond.keeps, Cond.steady])) hini)
  obtain ⟨hx, hb, hml, ho, -⟩ := S
  obtain ⟨-, ⟨cellB, hcB, hoB, hclB⟩, hPc⟩ := hp
  intro T hT X
  rcases vx_callVN X hx (C := C) (bytes := bytes) (maxL := maxL) (ret := ret) ho hl hx1 hx2 hcode hy hK (by rw [hT]; exact hcB) hoB hclB hg (hsize.trans hml.symm) (argsL := As) (rest := rest) (fun sig h => hn.trans (hlen sig h)) hstack hW (by rw [hb]; exact hdg)
    (fun vm₁ hW₁ => ⟨hf.1, hf.2, hPc (T.setVm vm₁) hT hW₁⟩) with ⟨v, vm₁, ⟨U', l2, c2, s2⟩, hW₁, X', ⟨g', mk, t, L, e1, e2, hq, h1, hL, h2, h3⟩, st⟩ | ⟨q, vm₁, ⟨U', l2, c2, s2⟩, hW₁, X', ⟨g', mk, t, L, E, ce, e1, e2, hq, hce, hcv, hcl, h1, hL, h2, h3⟩, st⟩
  · dsimp only [Pt.U, Pt.locs, Pt.cells, Pt.slots] at X' e1 e2 h1 h2 h3 st
    subst h1; subst h2; subst h3
    exact Or.inl ⟨v, (T.setVm vm₁).calling g' mk (Value.ref b :: As).toArray, t, U', L, hT, X', hL, e1, e2, hq, st⟩
  · dsimp only [Pt.U, Pt.locs, Pt.cells, Pt.slots] at X' e1 e2 h1 h2 h3 st hcl
    subst h1; subst h2; subst h3
    exact Or.inr ⟨q, (T.setVm vm₁).calling g' mk (Value.ref b :: As).toArray, t, U', L, E, ce, hT, X', hL, e1, e2, hq, hce, hcv, vx_cls hW₁ hcl, st⟩
theorem vx_runSN {y : MethodName} {bytes cc : ByteArray} {maxL nL mc ms n index : Nat} {ret : Option FieldType} {ws : List Cond} {rm : Room} {Pc : Array Value → State → Prop} {Qc : Array Value → State → Outcome → State → Prop} {XC : String → State → State → Prop} {free : Addr → Prop} {Ts : List Cond} {own host : String} {As rest : List Value} {g : JFrame}
    (S : CallFix p m c cc nL s args Ts own) (hM : vx_Met l y ws rm Pc Qc XC mc ms free) (cw : va_CN R s args own index y host bytes maxL ret ws rm mc ms n ∧ (Cond.static y).before args s = true ∧ True) (hp : PreS s H Pc As)
    (hg : g.method = m) (hn : As.length = n) (hsize : g.locals.size = nL) (hstack : g.stack = As.reverse ++ rest) (hW : 2 * g.monitorRoom + (rest.map fun v => v.category).sum ≤ 8) (hdg : decode cc g.pc = .ok (.invokestatic index, 3)) (hf : cells + mc ≤ R.cells ∧ slots + ms ≤ R.slots) :
    vx_Run p l e R s m args below meth c H locs cells slots mc ms g rest (Qc As.toArray) XC free := by
  obtain ⟨⟨⟨hrc, hrs, hfr, hlo, hws, hcw⟩, hcode, hini, hy, hlen, hl⟩, hx1, hx2⟩ := cw
  have hK : vx_Back l R p e below s args y 3 8 (PreOf R mc ms Pc) (PostOf Qc mc ms free) (vx_Post XC mc ms free) := vx_back (bytes := bytes) (maxL := maxL) (ret := ret) hM hp.1 hrc hrs hfr hlo hws hcw (fun a' U hW => word_at hW (Or.inl (by first | rfl | simp [Cond.onTables, Cond.keeps, Cond.steady])) hini)
  obtain ⟨hx, hb, hml, ho, -⟩ := S
  have hPc := hp.2
  intro T hT X
  rcases vx_callSN X hx (bytes := bytes) (maxL := maxL) (ret := ret) ho hl hx1 hini hcode hy hK hg (hsize.trans hml.symm) (argsL := As) (rest := rest) (fun sig h => hn.trans (hlen sig h)) hstack hW (by rw [hb]; exact hdg)
    (fun vm₁ hW₁ => ⟨hf.1, hf.2, hPc (T.setVm vm₁) hT hW₁⟩) with ⟨v, vm₁, ⟨U', l2, c2, s2⟩, hW₁, X', ⟨g', mk, t, L, e1, e2, hq, h1, hL, h2, h3⟩, st⟩ | ⟨q, vm₁, ⟨U', l2, c2, s2⟩, hW₁, X', ⟨g', mk, t, L, E, ce, e1, e2, hq, hce, hcv, hcl, h1, hL, h2, h3⟩, st⟩
  · dsimp only [Pt.U, Pt.locs, Pt.cells, Pt.slots] at X' e1 e2 h1 h2 h3 st
    subst h1; subst h2; subst h3
    exact Or.inl ⟨v, (T.setVm vm₁).calling g' mk As.toArray, t, U', L, hT, X', hL, e1, e2, hq, st⟩
  · dsimp only [Pt.U, Pt.locs, Pt.cells, Pt.slots] at X' e1 e2 h1 h2 h3 st hcl
    subst h1; subst h2; subst h3
    exact Or.inr ⟨q, (T.setVm vm₁).calling g' mk As.toArray, t, U', L, E, ce, hT, X', hL, e1, e2, hq, hce, hcv, vx_cls hW₁ hcl, st⟩
end
/-! ===== END ===== -/
/-! ===== BEGIN calls by an interface of methods that may throw (vx_callIF, vx_runF follow va_callIF, va_runF of this kit) ===== -/
section
variable {p : Program} {l : Launch} {e : Env} {R : Room} {s : State} {m : MethodId} {args : Array Value} {below : List Frame} {meth : Method} {c : Code} {H : Heap} {locs : List Loc} {cells slots : Nat} {Q : State → Prop}
variable {mc ms : Nat} {free : Addr → Prop} {A0 A1 : Nat → Prop} {H0 : Heap} {a : Array Value} {pc : Nat} {ls : Array Slot} {st0 rest : List Value}
def vx_Run5 (p : Program) (l : Launch) (e : Env) (R : Room) (s : State) (m : MethodId) (args : Array Value) (below : List Frame) (meth : Method) (c : Code) (H : Heap) (locs : List Loc) (cells slots mc ms : Nat) (g : JFrame) (rest : List Value) (Qa : State → Outcome → State → Prop) (XC : String → State → State → Prop) (free : Addr → Prop) : Prop :=
  ∀ T : State, T.heap = H → Stand p l e R s m args below meth c T locs cells slots →
    (∃ (v : Option Value) (st₀ t T' : State) (L : List Loc), st₀.heap = H ∧ Stand p l e R s m args below meth c T' (locs ++ L) (cells + mc) (slots + ms) ∧ (∀ q ∈ L, free q.base) ∧ T'.heap = t.heap ∧ T'.vm = t.vm ∧ Qa st₀ (.returned v) t ∧
      Goes p e below T g T' { g with pc := g.pc + 5, stack := v.toList ++ rest }) ∨
    (∃ (q : Addr) (st₀ t T' : State) (L : List Loc) (E : String) (ce : Cell), st₀.heap = H ∧ Stand p l e R s m args below meth c T' (locs ++ L) (cells + mc) (slots + ms) ∧ (∀ z ∈ L, free z.base) ∧ T'.heap = t.heap ∧ T'.vm = t.vm ∧ XC E st₀ t ∧ t.heap[q]? = some ce ∧ ce.vm = .none ∧ s.vm.findClass E = some ce.cls ∧
      Steps p.tables e below (T.setTop g) ((T'.setTop { g with stack := rest }).pushFrame (.throwing q)))
theorem vx_callIF {T : State} (X : Stand p l e R s m args below meth c T locs cells slots) (hexec : p.tables.exec = Jvm.exec) {own C : String} {index count : Nat} {x y : MethodName} {bytes : ByteArray} {maxL : Nat} {ret : Option FieldType}
    (hown : s.vm.findClass own = some m.cls) (hlink : (Cond.methodLink own index x).before args s = true) (hdecl : (Cond.declares x).before args s = true) (hface : (Cond.interfaceMethod x.cls x.cls x.name x.desc).before args s = true)
    (hsel : (Cond.selects C x y).before args s = true) (hinst : (Cond.instanceMethod y).before args s = true) (hpub : (Cond.publicMethod y).before args s = true) (hunh : (Cond.unhidden C x.name x.desc).before args s = true)
    (hcast : (Cond.castable C x.cls).before args s = true) (hcode : (Cond.code y bytes maxL ret).before args s = true) (hx : x.cls ≠ "java/lang/invoke/MethodHandle" ∧ x.cls ≠ "java/lang/invoke/VarHandle")
    {W9 : Nat} {Pre : Pt → Array Value → Prop} {Post : Pt → Array Value → Option Value → Pt → Prop} {PostX : Pt → Array Value → Addr → Pt → Prop} (hK : vx_Back l R p e below s args y 5 W9 Pre Post PostX)
    {b : Addr} {cellB : Cell} {kB : Class} (hcell : T.heap[b]? = some cellB) (hobj : cellB.vm.isStatics = false) (hcls : s.vm.findClass C = some cellB.cls) (hkB : s.vm.classes[cellB.cls]? = some kB)
    {g : JFrame} (hg : g.method = m) (hsize : g.locals.size = c.maxLocals) {argsL rest : List Value} (hlen : ∀ sig, parseMethodDescriptor x.desc = some sig → argsL.length = sig.parameters.length)
    (hstack : g.stack = argsL.reverse ++ .ref b :: rest) (hW : 2 * g.monitorRoom + (rest.map fun v => v.category).sum ≤ W9) (hdg : decode c.code g.pc = .ok (.invokeinterface index count, 5))
    (hpre : ∀ vm₁, s.WarmedH vm₁ → Pre ⟨T.setVm vm₁, locs, cells, slots⟩ (Value.ref b :: argsL).toArray) :
    (∃ (v : Option Value) (vm₁ : Vm) (B : Pt), s.WarmedH vm₁ ∧ Stand p l e R s m args below meth c B.U B.locs B.cells B.slots ∧ Post ⟨T.setVm vm₁, locs, cells, slots⟩ (Value.ref b :: argsL).toArray v B ∧
      ∀ target, Steps p.tables e below (B.U.setTop { g with pc := g.pc + 5, stack := v.toList ++ rest }) target → Steps p.tables e below (T.setTop g) target) ∨
    (∃ (q : Addr) (vm₁ : Vm) (B : Pt), s.WarmedH vm₁ ∧ Stand p l e R s m args below meth c B.U B.locs B.cells B.slots ∧ PostX ⟨T.setVm vm₁, locs, cells, slots⟩ (Value.ref b :: argsL).toArray q B ∧
      Steps p.tables e below (T.setTop g) ((B.U.setTop { g with stack := rest }).pushFrame (.throwing q))) := by
  obtain ⟨r0, r, hn, hrm, hstR, hsigR⟩ := Cond.declares_spec hdecl
  obtain ⟨cL, kL, r1, hcL, hkL, hiL, hfoundL, hn1⟩ := Cond.interfaceMethod_spec hface
  cases hn.symm.trans hn1
  have hr0cls : r0.cls = cL := Option.some.inj ((findClass_of_methodNamed hn).symm.trans hcL)
  obtain ⟨hnameR, hdescR⟩ := name_of_methodNamed hn hrm
  obtain ⟨mk, methM, hnamed, hmethM, -, habM⟩ := Cond.instanceMethod_spec hinst
  obtain ⟨c2, r2, m2, q1, q2, q3, q4, -⟩ := Cond.selects_spec hsel
  cases hcls.symm.trans q1
  cases hfoundL.symm.trans q2
  cases hnamed.symm.trans q3
  have hselP : selectMethod e.platform s.vm cellB.cls r0 = .method mk := by rw [Launch.admits_selectMethod X.admits]; exact q4
  have hpubM : hasFlag methM.accessFlags Acc.public_ = true := Cond.publicMethod_spec hnamed hmethM hpub
  have hway : ((cellB.cls :: s.vm.superclasses cellB.cls).any fun k => (declaredIn s.vm r.name r.desc k).any fun (_, z) => z.isPrivate || z.isStatic) = false := by
    rw [hnameR, hdescR]; exact Cond.unhidden_spec hcls hunh
  obtain ⟨c3, t3, w1, w2, w3⟩ := Cond.castable_spec hcast
  cases hcls.symm.trans w1
  cases hcL.symm.trans w2
  obtain ⟨vm₁, X₁, hstep₁⟩ := X.invokeinterface hexec hown hlink hn hrm hstR (by rw [hr0cls]; exact hkL) hiL hx (a := b) (cell := cellB) (kcell := kB) hcell
    (fun z h => by rw [h] at hobj; cases hobj) hkB (by rw [hr0cls]; exact w3) hselP hmethM hway hpubM habM (g := g) hg (argsL := argsL) (rest := rest) (hlen _ hsigR) hstack hdg
  rcases hK m meth c ⟨T.setVm vm₁, locs, cells, slots⟩ { g with stack := rest } (.invokeinterface index count) mk (Value.ref b :: argsL).toArray X₁ hg hsize hdg hW (X₁.named hnamed) (hpre vm₁ X₁.warmed) with ⟨v, B, X', hpost, hsteps⟩ | ⟨q, B, X', hpost, hsteps⟩
  · exact Or.inl ⟨v, vm₁, B, X₁.warmed, X', hpost, fun target h => hstep₁ _ fun acts => by rw [doInvoke_state]; exact hsteps.trans h⟩
  · exact Or.inr ⟨q, vm₁, B, X₁.warmed, X', hpost, hstep₁ _ fun acts => by rw [doInvoke_state]; exact hsteps⟩
theorem vx_runF {x y : MethodName} {bytes cc : ByteArray} {maxL nL mc ms n index count : Nat} {ret : Option FieldType} {ws : List Cond} {rm : Room} {Pc : Array Value → State → Prop} {Qc : Array Value → State → Outcome → State → Prop} {XC : String → State → State → Prop} {free : Addr → Prop} {Ts : List Cond} {own C : String} {cC : ClassId} {b : Addr} {As rest : List Value} {g : JFrame}
    (hat : ClassAt s C cC) (S : CallFix p m c cc nL s args Ts own) (hM : vx_Met l y ws rm Pc Qc XC mc ms free) (cw : va_CI R s args own C index x y bytes maxL ret ws rm mc ms n) (hp : PreV s H C b Pc As)
    (hg : g.method = m) (hn : As.length = n) (hsize : g.locals.size = nL) (hstack : g.stack = As.reverse ++ .ref b :: rest) (hW : 2 * g.monitorRoom + (rest.map fun v => v.category).sum ≤ 8) (hdg : decode cc g.pc = .ok (.invokeinterface index count, 5)) (hf : cells + mc ≤ R.cells ∧ slots + ms ≤ R.slots) :
    vx_Run5 p l e R s m args below meth c H locs cells slots mc ms g rest (Qc (Value.ref b :: As).toArray) XC free := by
  obtain ⟨hrc, hrs, hfr, hlo, hws, hcw⟩ := cw.back
  have hini := cw.init
  have hK : vx_Back l R p e below s args y 5 8 (PreOf R mc ms Pc) (PostOf Qc mc ms free) (vx_Post XC mc ms free) := vx_back (bytes := bytes) (maxL := maxL) (ret := ret) hM hp.1 hrc hrs hfr hlo hws hcw (fun a' U hW => word_at hW (Or.inl (by first | rfl | simp [Cond.onTables, Cond.keeps, Cond.steady])) hini)
  obtain ⟨hx, hb, hml, ho, -⟩ := S
  obtain ⟨-, ⟨cellB, hcB, hoB, hclB⟩, hPc⟩ := hp
  obtain ⟨hfc, kB, hkB, -⟩ := hat
  cases hfc.symm.trans hclB
  intro T hT X
  rcases vx_callIF X hx (C := C) (bytes := bytes) (maxL := maxL) (ret := ret) ho cw.link cw.decl cw.face cw.sel cw.inst cw.pub cw.unh cw.cast cw.code cw.notMH hK (by rw [hT]; exact hcB) hoB hclB hkB hg (hsize.trans hml.symm) (argsL := As) (rest := rest) (fun sig h => hn.trans (cw.len sig h)) hstack hW (by rw [hb]; exact hdg)
    (fun vm₁ hW₁ => ⟨hf.1, hf.2, hPc (T.setVm vm₁) hT hW₁⟩) with ⟨v, vm₁, ⟨U', l2, c2, s2⟩, hW₁, X', ⟨g', mk, t, L, e1, e2, hq, h1, hL, h2, h3⟩, st⟩ | ⟨q, vm₁, ⟨U', l2, c2, s2⟩, hW₁, X', ⟨g', mk, t, L, E, ce, e1, e2, hq, hce, hcv, hcl, h1, hL, h2, h3⟩, st⟩
  · dsimp only [Pt.U, Pt.locs, Pt.cells, Pt.slots] at X' e1 e2 h1 h2 h3 st
    subst h1; subst h2; subst h3
    exact Or.inl ⟨v, (T.setVm vm₁).calling g' mk (Value.ref b :: As).toArray, t, U', L, hT, X', hL, e1, e2, hq, st⟩
  · dsimp only [Pt.U, Pt.locs, Pt.cells, Pt.slots] at X' e1 e2 h1 h2 h3 st hcl
    subst h1; subst h2; subst h3
    exact Or.inr ⟨q, (T.setVm vm₁).calling g' mk (Value.ref b :: As).toArray, t, U', L, E, ce, hT, X', hL, e1, e2, hq, hce, hcv, vx_cls hW₁ hcl, st⟩
theorem vx_callFv {S SX : Type} {post : S → Prop} {px : SX → Prop} {B : S → State → Prop} {BX : String → SX → State → Prop} {AX : Nat → Prop} (hr : vx_Run5 p l e R s m args below meth c H locs cells slots mc ms (F0 m pc ls st0) rest (va_Qv post B A1 a) (vx_X px BX AX) free) (hS : va_S A0 H0 H locs) (hA : ∀ q, q < H.size → A1 q → A0 q) (hf : ∀ q, free q → A0 q) (hAX : ∀ q, q < H.size → AX q → A0 q)
    (kx : ∀ (E : String) (ce : Cell) (q9 : Addr) (u : SX) (t : State) (H1 : Heap) (locs1 : List Loc), t.heap = H1 → s.vm.Alike t.vm → px u → BX E u t → H.size ≤ H1.size → (∀ q : Nat, q < H.size → ¬ AX q → H1[q]? = H[q]?) → va_S A0 H0 H1 locs1 → H1[q9]? = some ce → ce.vm = .none → s.vm.findClass E = some ce.cls → vx_W p l e R s m args below meth c H1 locs1 (cells + mc) (slots + ms) Q (F0 m pc ls rest) q9)
    (kk : ∀ (u : S) (t : State) (H1 : Heap) (locs1 : List Loc), t.heap = H1 → s.vm.Alike t.vm → post u → B u t → H.size ≤ H1.size → (∀ q : Nat, q < H.size → ¬ A1 q → H1[q]? = H[q]?) → va_S A0 H0 H1 locs1 → W p l e R s m args below meth c H1 locs1 (cells + mc) (slots + ms) Q (F0 m (pc + 5) ls (rest))) : W p l e R s m args below meth c H locs cells slots Q (F0 m pc ls st0) := by
  intro T hT X
  rcases hr T hT X with ⟨v, st₀, t, T', L, h0, X', hL, e1, e2, ⟨⟨u, hv, hp, hb⟩, hF⟩, st⟩ | ⟨q, st₀, t, T', L, E, ce, h0, X', hL, e1, e2, ⟨u, hp, hb, hF⟩, hce, hcv, hcl, st⟩
  · cases hv
    obtain ⟨k1, k2, k3⟩ := vx_keep h0 e1 hS hA hf hL hF
    obtain ⟨t2, a1, b1⟩ := kk u t T'.heap (locs ++ L) e1.symm (by rw [← e2]; exact X'.warmed.alike) hp hb k1 k2 k3 T' rfl X'
    exact ⟨t2, st t2 a1, b1⟩
  · obtain ⟨k1, k2, k3⟩ := vx_keep h0 e1 hS hAX hf hL hF
    obtain ⟨t2, a1, b1⟩ := kx E ce q u t T'.heap (locs ++ L) e1.symm (by rw [← e2]; exact X'.warmed.alike) hp hb k1 k2 k3 (by rw [e1]; exact hce) hcv hcl T' rfl X'
    exact ⟨t2, st.trans a1, b1⟩
theorem vx_callFi {S SX : Type} {post : Int32 → S → Prop} {px : SX → Prop} {B : S → State → Prop} {BX : String → SX → State → Prop} {AX : Nat → Prop} (hr : vx_Run5 p l e R s m args below meth c H locs cells slots mc ms (F0 m pc ls st0) rest (va_Qi post B A1 a) (vx_X px BX AX) free) (hS : va_S A0 H0 H locs) (hA : ∀ q, q < H.size → A1 q → A0 q) (hf : ∀ q, free q → A0 q) (hAX : ∀ q, q < H.size → AX q → A0 q)
    (kx : ∀ (E : String) (ce : Cell) (q9 : Addr) (u : SX) (t : State) (H1 : Heap) (locs1 : List Loc), t.heap = H1 → s.vm.Alike t.vm → px u → BX E u t → H.size ≤ H1.size → (∀ q : Nat, q < H.size → ¬ AX q → H1[q]? = H[q]?) → va_S A0 H0 H1 locs1 → H1[q9]? = some ce → ce.vm = .none → s.vm.findClass E = some ce.cls → vx_W p l e R s m args below meth c H1 locs1 (cells + mc) (slots + ms) Q (F0 m pc ls rest) q9)
    (kk : ∀ (r : Int32) (u : S) (t : State) (H1 : Heap) (locs1 : List Loc), t.heap = H1 → s.vm.Alike t.vm → post r u → B u t → H.size ≤ H1.size → (∀ q : Nat, q < H.size → ¬ A1 q → H1[q]? = H[q]?) → va_S A0 H0 H1 locs1 → W p l e R s m args below meth c H1 locs1 (cells + mc) (slots + ms) Q (F0 m (pc + 5) ls (.int r :: rest))) : W p l e R s m args below meth c H locs cells slots Q (F0 m pc ls st0) := by
  intro T hT X
  rcases hr T hT X with ⟨v, st₀, t, T', L, h0, X', hL, e1, e2, ⟨⟨r, u, hv, hp, hb⟩, hF⟩, st⟩ | ⟨q, st₀, t, T', L, E, ce, h0, X', hL, e1, e2, ⟨u, hp, hb, hF⟩, hce, hcv, hcl, st⟩
  · cases hv
    obtain ⟨k1, k2, k3⟩ := vx_keep h0 e1 hS hA hf hL hF
    obtain ⟨t2, a1, b1⟩ := kk r u t T'.heap (locs ++ L) e1.symm (by rw [← e2]; exact X'.warmed.alike) hp hb k1 k2 k3 T' rfl X'
    exact ⟨t2, st t2 a1, b1⟩
  · obtain ⟨k1, k2, k3⟩ := vx_keep h0 e1 hS hAX hf hL hF
    obtain ⟨t2, a1, b1⟩ := kx E ce q u t T'.heap (locs ++ L) e1.symm (by rw [← e2]; exact X'.warmed.alike) hp hb k1 k2 k3 (by rw [e1]; exact hce) hcv hcl T' rfl X'
    exact ⟨t2, st.trans a1, b1⟩
theorem vx_callFl {S SX : Type} {post : Int64 → S → Prop} {px : SX → Prop} {B : S → State → Prop} {BX : String → SX → State → Prop} {AX : Nat → Prop} (hr : vx_Run5 p l e R s m args below meth c H locs cells slots mc ms (F0 m pc ls st0) rest (va_Ql post B A1 a) (vx_X px BX AX) free) (hS : va_S A0 H0 H locs) (hA : ∀ q, q < H.size → A1 q → A0 q) (hf : ∀ q, free q → A0 q) (hAX : ∀ q, q < H.size → AX q → A0 q)
    (kx : ∀ (E : String) (ce : Cell) (q9 : Addr) (u : SX) (t : State) (H1 : Heap) (locs1 : List Loc), t.heap = H1 → s.vm.Alike t.vm → px u → BX E u t → H.size ≤ H1.size → (∀ q : Nat, q < H.size → ¬ AX q → H1[q]? = H[q]?) → va_S A0 H0 H1 locs1 → H1[q9]? = some ce → ce.vm = .none → s.vm.findClass E = some ce.cls → vx_W p l e R s m args below meth c H1 locs1 (cells + mc) (slots + ms) Q (F0 m pc ls rest) q9)
    (kk : ∀ (r : Int64) (u : S) (t : State) (H1 : Heap) (locs1 : List Loc), t.heap = H1 → s.vm.Alike t.vm → post r u → B u t → H.size ≤ H1.size → (∀ q : Nat, q < H.size → ¬ A1 q → H1[q]? = H[q]?) → va_S A0 H0 H1 locs1 → W p l e R s m args below meth c H1 locs1 (cells + mc) (slots + ms) Q (F0 m (pc + 5) ls (.long r :: rest))) : W p l e R s m args below meth c H locs cells slots Q (F0 m pc ls st0) := by
  intro T hT X
  rcases hr T hT X with ⟨v, st₀, t, T', L, h0, X', hL, e1, e2, ⟨⟨r, u, hv, hp, hb⟩, hF⟩, st⟩ | ⟨q, st₀, t, T', L, E, ce, h0, X', hL, e1, e2, ⟨u, hp, hb, hF⟩, hce, hcv, hcl, st⟩
  · cases hv
    obtain ⟨k1, k2, k3⟩ := vx_keep h0 e1 hS hA hf hL hF
    obtain ⟨t2, a1, b1⟩ := kk r u t T'.heap (locs ++ L) e1.symm (by rw [← e2]; exact X'.warmed.alike) hp hb k1 k2 k3 T' rfl X'
    exact ⟨t2, st t2 a1, b1⟩
  · obtain ⟨k1, k2, k3⟩ := vx_keep h0 e1 hS hAX hf hL hF
    obtain ⟨t2, a1, b1⟩ := kx E ce q u t T'.heap (locs ++ L) e1.symm (by rw [← e2]; exact X'.warmed.alike) hp hb k1 k2 k3 (by rw [e1]; exact hce) hcv hcl T' rfl X'
    exact ⟨t2, st.trans a1, b1⟩
theorem vx_callFf {S SX : Type} {post : UInt32 → S → Prop} {px : SX → Prop} {B : S → State → Prop} {BX : String → SX → State → Prop} {AX : Nat → Prop} (hr : vx_Run5 p l e R s m args below meth c H locs cells slots mc ms (F0 m pc ls st0) rest (va_Qf post B A1 a) (vx_X px BX AX) free) (hS : va_S A0 H0 H locs) (hA : ∀ q, q < H.size → A1 q → A0 q) (hf : ∀ q, free q → A0 q) (hAX : ∀ q, q < H.size → AX q → A0 q)
    (kx : ∀ (E : String) (ce : Cell) (q9 : Addr) (u : SX) (t : State) (H1 : Heap) (locs1 : List Loc), t.heap = H1 → s.vm.Alike t.vm → px u → BX E u t → H.size ≤ H1.size → (∀ q : Nat, q < H.size → ¬ AX q → H1[q]? = H[q]?) → va_S A0 H0 H1 locs1 → H1[q9]? = some ce → ce.vm = .none → s.vm.findClass E = some ce.cls → vx_W p l e R s m args below meth c H1 locs1 (cells + mc) (slots + ms) Q (F0 m pc ls rest) q9)
    (kk : ∀ (r : UInt32) (u : S) (t : State) (H1 : Heap) (locs1 : List Loc), t.heap = H1 → s.vm.Alike t.vm → post r u → B u t → H.size ≤ H1.size → (∀ q : Nat, q < H.size → ¬ A1 q → H1[q]? = H[q]?) → va_S A0 H0 H1 locs1 → W p l e R s m args below meth c H1 locs1 (cells + mc) (slots + ms) Q (F0 m (pc + 5) ls (.float r :: rest))) : W p l e R s m args below meth c H locs cells slots Q (F0 m pc ls st0) := by
  intro T hT X
  rcases hr T hT X with ⟨v, st₀, t, T', L, h0, X', hL, e1, e2, ⟨⟨r, u, hv, hp, hb⟩, hF⟩, st⟩ | ⟨q, st₀, t, T', L, E, ce, h0, X', hL, e1, e2, ⟨u, hp, hb, hF⟩, hce, hcv, hcl, st⟩
  · cases hv
    obtain ⟨k1, k2, k3⟩ := vx_keep h0 e1 hS hA hf hL hF
    obtain ⟨t2, a1, b1⟩ := kk r u t T'.heap (locs ++ L) e1.symm (by rw [← e2]; exact X'.warmed.alike) hp hb k1 k2 k3 T' rfl X'
    exact ⟨t2, st t2 a1, b1⟩
  · obtain ⟨k1, k2, k3⟩ := vx_keep h0 e1 hS hAX hf hL hF
    obtain ⟨t2, a1, b1⟩ := kx E ce q u t T'.heap (locs ++ L) e1.symm (by rw [← e2]; exact X'.warmed.alike) hp hb k1 k2 k3 (by rw [e1]; exact hce) hcv hcl T' rfl X'
    exact ⟨t2, st.trans a1, b1⟩
theorem vx_callFd {S SX : Type} {post : UInt64 → S → Prop} {px : SX → Prop} {B : S → State → Prop} {BX : String → SX → State → Prop} {AX : Nat → Prop} (hr : vx_Run5 p l e R s m args below meth c H locs cells slots mc ms (F0 m pc ls st0) rest (va_Qd post B A1 a) (vx_X px BX AX) free) (hS : va_S A0 H0 H locs) (hA : ∀ q, q < H.size → A1 q → A0 q) (hf : ∀ q, free q → A0 q) (hAX : ∀ q, q < H.size → AX q → A0 q)
    (kx : ∀ (E : String) (ce : Cell) (q9 : Addr) (u : SX) (t : State) (H1 : Heap) (locs1 : List Loc), t.heap = H1 → s.vm.Alike t.vm → px u → BX E u t → H.size ≤ H1.size → (∀ q : Nat, q < H.size → ¬ AX q → H1[q]? = H[q]?) → va_S A0 H0 H1 locs1 → H1[q9]? = some ce → ce.vm = .none → s.vm.findClass E = some ce.cls → vx_W p l e R s m args below meth c H1 locs1 (cells + mc) (slots + ms) Q (F0 m pc ls rest) q9)
    (kk : ∀ (r : UInt64) (u : S) (t : State) (H1 : Heap) (locs1 : List Loc), t.heap = H1 → s.vm.Alike t.vm → post r u → B u t → H.size ≤ H1.size → (∀ q : Nat, q < H.size → ¬ A1 q → H1[q]? = H[q]?) → va_S A0 H0 H1 locs1 → W p l e R s m args below meth c H1 locs1 (cells + mc) (slots + ms) Q (F0 m (pc + 5) ls (.double r :: rest))) : W p l e R s m args below meth c H locs cells slots Q (F0 m pc ls st0) := by
  intro T hT X
  rcases hr T hT X with ⟨v, st₀, t, T', L, h0, X', hL, e1, e2, ⟨⟨r, u, hv, hp, hb⟩, hF⟩, st⟩ | ⟨q, st₀, t, T', L, E, ce, h0, X', hL, e1, e2, ⟨u, hp, hb, hF⟩, hce, hcv, hcl, st⟩
  · cases hv
    obtain ⟨k1, k2, k3⟩ := vx_keep h0 e1 hS hA hf hL hF
    obtain ⟨t2, a1, b1⟩ := kk r u t T'.heap (locs ++ L) e1.symm (by rw [← e2]; exact X'.warmed.alike) hp hb k1 k2 k3 T' rfl X'
    exact ⟨t2, st t2 a1, b1⟩
  · obtain ⟨k1, k2, k3⟩ := vx_keep h0 e1 hS hAX hf hL hF
    obtain ⟨t2, a1, b1⟩ := kx E ce q u t T'.heap (locs ++ L) e1.symm (by rw [← e2]; exact X'.warmed.alike) hp hb k1 k2 k3 (by rw [e1]; exact hce) hcv hcl T' rfl X'
    exact ⟨t2, st.trans a1, b1⟩
end
/-! ===== END ===== -/
/-! ===== BEGIN by an interface, a method with a table of its own that may throw (follows va_callIFW, va_runFW) ===== -/
section
variable {p : Program} {l : Launch} {e : Env} {R : Room} {s : State} {m : MethodId} {args : Array Value} {below : List Frame} {meth : Method} {c : Code} {H : Heap} {locs : List Loc} {cells slots : Nat}
theorem vx_callIFW {T : State} (X : Stand p l e R s m args below meth c T locs cells slots) (hexec : p.tables.exec = Jvm.exec) {own C : String} {index count : Nat} {x y : MethodName} {bytes : ByteArray} {maxL : Nat} {ret : Option FieldType} {hh : List (Nat × Nat × Nat × Nat)}
    (hown : s.vm.findClass own = some m.cls) (hlink : (Cond.methodLink own index x).before args s = true) (hdecl : (Cond.declares x).before args s = true) (hface : (Cond.interfaceMethod x.cls x.cls x.name x.desc).before args s = true)
    (hsel : (Cond.selects C x y).before args s = true) (hinst : (Cond.instanceMethod y).before args s = true) (hpub : (Cond.publicMethod y).before args s = true) (hunh : (Cond.unhidden C x.name x.desc).before args s = true)
    (hcast : (Cond.castable C x.cls).before args s = true) (hcode : (Cond.codeWith y bytes maxL ret hh).before args s = true) (hx : x.cls ≠ "java/lang/invoke/MethodHandle" ∧ x.cls ≠ "java/lang/invoke/VarHandle")
    {W : Nat} {Pre : Pt → Array Value → Prop} {Post : Pt → Array Value → Option Value → Pt → Prop} {PostX : Pt → Array Value → Addr → Pt → Prop} (hK : vx_Back l R p e below s args y 5 W Pre Post PostX)
    {b : Addr} {cellB : Cell} {kB : Class} (hcell : T.heap[b]? = some cellB) (hobj : cellB.vm.isStatics = false) (hcls : s.vm.findClass C = some cellB.cls) (hkB : s.vm.classes[cellB.cls]? = some kB)
    {g : JFrame} (hg : g.method = m) (hsize : g.locals.size = c.maxLocals) {argsL rest : List Value} (hlen : ∀ sig, parseMethodDescriptor x.desc = some sig → argsL.length = sig.parameters.length)
    (hstack : g.stack = argsL.reverse ++ .ref b :: rest) (hW : 2 * g.monitorRoom + (rest.map fun v => v.category).sum ≤ W) (hdg : decode c.code g.pc = .ok (.invokeinterface index count, 5))
    (hpre : ∀ vm₁, s.WarmedH vm₁ → Pre ⟨T.setVm vm₁, locs, cells, slots⟩ (Value.ref b :: argsL).toArray) :
    (∃ (v : Option Value) (vm₁ : Vm) (B : Pt), s.WarmedH vm₁ ∧ Stand p l e R s m args below meth c B.U B.locs B.cells B.slots ∧ Post ⟨T.setVm vm₁, locs, cells, slots⟩ (Value.ref b :: argsL).toArray v B ∧
      ∀ target, Steps p.tables e below (B.U.setTop { g with pc := g.pc + 5, stack := v.toList ++ rest }) target → Steps p.tables e below (T.setTop g) target) ∨
    (∃ (q : Addr) (vm₁ : Vm) (B : Pt), s.WarmedH vm₁ ∧ Stand p l e R s m args below meth c B.U B.locs B.cells B.slots ∧ PostX ⟨T.setVm vm₁, locs, cells, slots⟩ (Value.ref b :: argsL).toArray q B ∧
      Steps p.tables e below (T.setTop g) ((B.U.setTop { g with stack := rest }).pushFrame (.throwing q))) := by
  obtain ⟨r0, r, hn, hrm, hstR, hsigR⟩ := Cond.declares_spec hdecl
  obtain ⟨cL, kL, r1, hcL, hkL, hiL, hfoundL, hn1⟩ := Cond.interfaceMethod_spec hface
  cases hn.symm.trans hn1
  have hr0cls : r0.cls = cL := Option.some.inj ((findClass_of_methodNamed hn).symm.trans hcL)
  obtain ⟨hnameR, hdescR⟩ := name_of_methodNamed hn hrm
  obtain ⟨mk, methM, hnamed, hmethM, -, habM⟩ := Cond.instanceMethod_spec hinst
  obtain ⟨c2, r2, m2, q1, q2, q3, q4, -⟩ := Cond.selects_spec hsel
  cases hcls.symm.trans q1
  cases hfoundL.symm.trans q2
  cases hnamed.symm.trans q3
  have hselP : selectMethod e.platform s.vm cellB.cls r0 = .method mk := by rw [Launch.admits_selectMethod X.admits]; exact q4
  have hpubM : hasFlag methM.accessFlags Acc.public_ = true := Cond.publicMethod_spec hnamed hmethM hpub
  have hway : ((cellB.cls :: s.vm.superclasses cellB.cls).any fun k => (declaredIn s.vm r.name r.desc k).any fun (_, z) => z.isPrivate || z.isStatic) = false := by
    rw [hnameR, hdescR]; exact Cond.unhidden_spec hcls hunh
  obtain ⟨c3, t3, w1, w2, w3⟩ := Cond.castable_spec hcast
  cases hcls.symm.trans w1
  cases hcL.symm.trans w2
  obtain ⟨vm₁, X₁, hstep₁⟩ := X.invokeinterface hexec hown hlink hn hrm hstR (by rw [hr0cls]; exact hkL) hiL hx (a := b) (cell := cellB) (kcell := kB) hcell
    (fun z h => by rw [h] at hobj; cases hobj) hkB (by rw [hr0cls]; exact w3) hselP hmethM hway hpubM habM (g := g) hg (argsL := argsL) (rest := rest) (hlen _ hsigR) hstack hdg
  rcases hK m meth c ⟨T.setVm vm₁, locs, cells, slots⟩ { g with stack := rest } (.invokeinterface index count) mk (Value.ref b :: argsL).toArray X₁ hg hsize hdg hW (X₁.named hnamed) (hpre vm₁ X₁.warmed) with ⟨v, B, X', hpost, hsteps⟩ | ⟨q, B, X', hpost, hsteps⟩
  · exact Or.inl ⟨v, vm₁, B, X₁.warmed, X', hpost, fun target h => hstep₁ _ fun acts => by rw [doInvoke_state]; exact hsteps.trans h⟩
  · exact Or.inr ⟨q, vm₁, B, X₁.warmed, X', hpost, hstep₁ _ fun acts => by rw [doInvoke_state]; exact hsteps⟩
theorem vx_runFW {x y : MethodName} {bytes cc : ByteArray} {maxL nL mc ms n index count : Nat} {ret : Option FieldType} {hh : List (Nat × Nat × Nat × Nat)} {ws : List Cond} {rm : Room} {Pc : Array Value → State → Prop} {Qc : Array Value → State → Outcome → State → Prop} {XC : String → State → State → Prop} {free : Addr → Prop} {Ts : List Cond} {own C : String} {cC : ClassId} {b : Addr} {As rest : List Value} {g : JFrame}
    (hat : ClassAt s C cC) (S : CallFix p m c cc nL s args Ts own) (hM : vx_Met l y ws rm Pc Qc XC mc ms free) (cw : va_CIW R s args own C index x y bytes maxL ret hh ws rm mc ms n) (hp : PreV s H C b Pc As)
    (hg : g.method = m) (hn : As.length = n) (hsize : g.locals.size = nL) (hstack : g.stack = As.reverse ++ .ref b :: rest) (hW : 2 * g.monitorRoom + (rest.map fun v => v.category).sum ≤ 8) (hdg : decode cc g.pc = .ok (.invokeinterface index count, 5)) (hf : cells + mc ≤ R.cells ∧ slots + ms ≤ R.slots) :
    vx_Run5 p l e R s m args below meth c H locs cells slots mc ms g rest (Qc (Value.ref b :: As).toArray) XC free := by
  obtain ⟨hrc, hrs, hfr, hlo, hws, hcw⟩ := cw.back
  have hini := cw.init
  have hK : vx_Back l R p e below s args y 5 8 (PreOf R mc ms Pc) (PostOf Qc mc ms free) (vx_Post XC mc ms free) := vx_backW (hh := hh) (bytes := bytes) (maxL := maxL) (ret := ret) hM hp.1 hrc hrs hfr hlo hws hcw (fun a' U hW => word_at hW (Or.inl (by first | rfl | simp [Cond.onTables, Cond.keeps, Cond.steady])) hini)
  obtain ⟨hx, hb, hml, ho, -⟩ := S
  obtain ⟨-, ⟨cellB, hcB, hoB, hclB⟩, hPc⟩ := hp
  obtain ⟨hfc, kB, hkB, -⟩ := hat
  cases hfc.symm.trans hclB
  intro T hT X
  rcases vx_callIFW X hx (C := C) (hh := hh) (bytes := bytes) (maxL := maxL) (ret := ret) ho cw.link cw.decl cw.face cw.sel cw.inst cw.pub cw.unh cw.cast cw.code cw.notMH hK (by rw [hT]; exact hcB) hoB hclB hkB hg (hsize.trans hml.symm) (argsL := As) (rest := rest) (fun sig h => hn.trans (cw.len sig h)) hstack hW (by rw [hb]; exact hdg)
    (fun vm₁ hW₁ => ⟨hf.1, hf.2, hPc (T.setVm vm₁) hT hW₁⟩) with ⟨v, vm₁, ⟨U', l2, c2, s2⟩, hW₁, X', ⟨g', mk, t, L, e1, e2, hq, h1, hL, h2, h3⟩, st⟩ | ⟨q, vm₁, ⟨U', l2, c2, s2⟩, hW₁, X', ⟨g', mk, t, L, E, ce, e1, e2, hq, hce, hcv, hcl, h1, hL, h2, h3⟩, st⟩
  · dsimp only [Pt.U, Pt.locs, Pt.cells, Pt.slots] at X' e1 e2 h1 h2 h3 st
    subst h1; subst h2; subst h3
    exact Or.inl ⟨v, (T.setVm vm₁).calling g' mk (Value.ref b :: As).toArray, t, U', L, hT, X', hL, e1, e2, hq, st⟩
  · dsimp only [Pt.U, Pt.locs, Pt.cells, Pt.slots] at X' e1 e2 h1 h2 h3 st hcl
    subst h1; subst h2; subst h3
    exact Or.inr ⟨q, (T.setVm vm₁).calling g' mk (Value.ref b :: As).toArray, t, U', L, E, ce, hT, X', hL, e1, e2, hq, hce, hcv, vx_cls hW₁ hcl, st⟩
end
/-! ===== END ===== -/
/-! ===== BEGIN .. of methods that hand back an object of the pool ===== -/
section
variable {p : Program} {l : Launch} {e : Env} {R : Room} {s : State} {m : MethodId} {args : Array Value} {below : List Frame} {meth : Method} {c : Code} {H : Heap} {locs : List Loc} {cells slots : Nat} {Q : State → Prop}
variable {mc ms : Nat} {free : Addr → Prop} {A0 A1 : Nat → Prop} {H0 : Heap} {a : Array Value} {pc : Nat} {ls : Array Slot} {st0 rest : List Value}
theorem vx_callq {S SX : Type} {post : Option Nat → S → Prop} {px : SX → Prop} {B : S → State → Prop} {BX : String → SX → State → Prop} {AX : Nat → Prop} (hr : vx_Run p l e R s m args below meth c H locs cells slots mc ms (F0 m pc ls st0) rest (va_Qq post B A1 a) (vx_X px BX AX) free) (hS : va_S A0 H0 H locs) (hA : ∀ q, q < H.size → A1 q → A0 q) (hf : ∀ q, free q → A0 q) (hAX : ∀ q, q < H.size → AX q → A0 q)
    (kx : ∀ (E : String) (ce : Cell) (q9 : Addr) (u : SX) (t : State) (H1 : Heap) (locs1 : List Loc), t.heap = H1 → s.vm.Alike t.vm → px u → BX E u t → H.size ≤ H1.size → (∀ q : Nat, q < H.size → ¬ AX q → H1[q]? = H[q]?) → va_S A0 H0 H1 locs1 → H1[q9]? = some ce → ce.vm = .none → s.vm.findClass E = some ce.cls → vx_W p l e R s m args below meth c H1 locs1 (cells + mc) (slots + ms) Q (F0 m pc ls rest) q9)
    (kk : ∀ (r : Option Nat) (u : S) (t : State) (H1 : Heap) (locs1 : List Loc), t.heap = H1 → s.vm.Alike t.vm → post r u → B u t → H.size ≤ H1.size → (∀ q : Nat, q < H.size → ¬ A1 q → H1[q]? = H[q]?) → va_S A0 H0 H1 locs1 → W p l e R s m args below meth c H1 locs1 (cells + mc) (slots + ms) Q (F0 m (pc + 3) ls (va_rf r :: rest))) : W p l e R s m args below meth c H locs cells slots Q (F0 m pc ls st0) := by
  intro T hT X
  rcases hr T hT X with ⟨v, st₀, t, T', L, h0, X', hL, e1, e2, ⟨⟨r, u, hv, hp, hb⟩, hF⟩, st⟩ | ⟨q, st₀, t, T', L, E, ce, h0, X', hL, e1, e2, ⟨u, hp, hb, hF⟩, hce, hcv, hcl, st⟩
  · cases hv
    obtain ⟨k1, k2, k3⟩ := vx_keep h0 e1 hS hA hf hL hF
    obtain ⟨t2, a1, b1⟩ := kk r u t T'.heap (locs ++ L) e1.symm (by rw [← e2]; exact X'.warmed.alike) hp hb k1 k2 k3 T' rfl X'
    exact ⟨t2, st t2 a1, b1⟩
  · obtain ⟨k1, k2, k3⟩ := vx_keep h0 e1 hS hAX hf hL hF
    obtain ⟨t2, a1, b1⟩ := kx E ce q u t T'.heap (locs ++ L) e1.symm (by rw [← e2]; exact X'.warmed.alike) hp hb k1 k2 k3 (by rw [e1]; exact hce) hcv hcl T' rfl X'
    exact ⟨t2, st.trans a1, b1⟩
end
/-! ===== END ===== -/
/-! ===== BEGIN .. a constant ===== -/
section
variable {p : Program} {l : Launch} {e : Env} {R : Room} {s : State} {m : MethodId} {args : Array Value} {below : List Frame} {meth : Method} {c : Code} {H : Heap} {locs : List Loc} {cells slots : Nat} {Q : State → Prop}
variable {mc ms : Nat} {free : Addr → Prop} {A0 A1 : Nat → Prop} {H0 : Heap} {a : Array Value} {pc : Nat} {ls : Array Slot} {st0 rest : List Value}
theorem vx_calle {ad : Nat → Nat} {S SX : Type} {post : Option Nat → S → Prop} {px : SX → Prop} {B : S → State → Prop} {BX : String → SX → State → Prop} {AX : Nat → Prop} (hr : vx_Run p l e R s m args below meth c H locs cells slots mc ms (F0 m pc ls st0) rest (va_Qe ad post B A1 a) (vx_X px BX AX) free) (hS : va_S A0 H0 H locs) (hA : ∀ q, q < H.size → A1 q → A0 q) (hf : ∀ q, free q → A0 q) (hAX : ∀ q, q < H.size → AX q → A0 q)
    (kx : ∀ (E : String) (ce : Cell) (q9 : Addr) (u : SX) (t : State) (H1 : Heap) (locs1 : List Loc), t.heap = H1 → s.vm.Alike t.vm → px u → BX E u t → H.size ≤ H1.size → (∀ q : Nat, q < H.size → ¬ AX q → H1[q]? = H[q]?) → va_S A0 H0 H1 locs1 → H1[q9]? = some ce → ce.vm = .none → s.vm.findClass E = some ce.cls → vx_W p l e R s m args below meth c H1 locs1 (cells + mc) (slots + ms) Q (F0 m pc ls rest) q9)
    (kk : ∀ (r : Option Nat) (u : S) (t : State) (H1 : Heap) (locs1 : List Loc), t.heap = H1 → s.vm.Alike t.vm → post r u → B u t → H.size ≤ H1.size → (∀ q : Nat, q < H.size → ¬ A1 q → H1[q]? = H[q]?) → va_S A0 H0 H1 locs1 → W p l e R s m args below meth c H1 locs1 (cells + mc) (slots + ms) Q (F0 m (pc + 3) ls (va_re ad r :: rest))) : W p l e R s m args below meth c H locs cells slots Q (F0 m pc ls st0) := by
  intro T hT X
  rcases hr T hT X with ⟨v, st₀, t, T', L, h0, X', hL, e1, e2, ⟨⟨r, u, hv, hp, hb⟩, hF⟩, st⟩ | ⟨q, st₀, t, T', L, E, ce, h0, X', hL, e1, e2, ⟨u, hp, hb, hF⟩, hce, hcv, hcl, st⟩
  · cases hv
    obtain ⟨k1, k2, k3⟩ := vx_keep h0 e1 hS hA hf hL hF
    obtain ⟨t2, a1, b1⟩ := kk r u t T'.heap (locs ++ L) e1.symm (by rw [← e2]; exact X'.warmed.alike) hp hb k1 k2 k3 T' rfl X'
    exact ⟨t2, st t2 a1, b1⟩
  · obtain ⟨k1, k2, k3⟩ := vx_keep h0 e1 hS hAX hf hL hF
    obtain ⟨t2, a1, b1⟩ := kx E ce q u t T'.heap (locs ++ L) e1.symm (by rw [← e2]; exact X'.warmed.alike) hp hb k1 k2 k3 (by rw [e1]; exact hce) hcv hcl T' rfl X'
    exact ⟨t2, st.trans a1, b1⟩
end
/-! ===== END ===== -/
/-! ===== BEGIN .. by an interface, an object ===== -/
section
variable {p : Program} {l : Launch} {e : Env} {R : Room} {s : State} {m : MethodId} {args : Array Value} {below : List Frame} {meth : Method} {c : Code} {H : Heap} {locs : List Loc} {cells slots : Nat} {Q : State → Prop}
variable {mc ms : Nat} {free : Addr → Prop} {A0 A1 : Nat → Prop} {H0 : Heap} {a : Array Value} {pc : Nat} {ls : Array Slot} {st0 rest : List Value}
theorem vx_callFq {S SX : Type} {post : Option Nat → S → Prop} {px : SX → Prop} {B : S → State → Prop} {BX : String → SX → State → Prop} {AX : Nat → Prop} (hr : vx_Run5 p l e R s m args below meth c H locs cells slots mc ms (F0 m pc ls st0) rest (va_Qq post B A1 a) (vx_X px BX AX) free) (hS : va_S A0 H0 H locs) (hA : ∀ q, q < H.size → A1 q → A0 q) (hf : ∀ q, free q → A0 q) (hAX : ∀ q, q < H.size → AX q → A0 q)
    (kx : ∀ (E : String) (ce : Cell) (q9 : Addr) (u : SX) (t : State) (H1 : Heap) (locs1 : List Loc), t.heap = H1 → s.vm.Alike t.vm → px u → BX E u t → H.size ≤ H1.size → (∀ q : Nat, q < H.size → ¬ AX q → H1[q]? = H[q]?) → va_S A0 H0 H1 locs1 → H1[q9]? = some ce → ce.vm = .none → s.vm.findClass E = some ce.cls → vx_W p l e R s m args below meth c H1 locs1 (cells + mc) (slots + ms) Q (F0 m pc ls rest) q9)
    (kk : ∀ (r : Option Nat) (u : S) (t : State) (H1 : Heap) (locs1 : List Loc), t.heap = H1 → s.vm.Alike t.vm → post r u → B u t → H.size ≤ H1.size → (∀ q : Nat, q < H.size → ¬ A1 q → H1[q]? = H[q]?) → va_S A0 H0 H1 locs1 → W p l e R s m args below meth c H1 locs1 (cells + mc) (slots + ms) Q (F0 m (pc + 5) ls (va_rf r :: rest))) : W p l e R s m args below meth c H locs cells slots Q (F0 m pc ls st0) := by
  intro T hT X
  rcases hr T hT X with ⟨v, st₀, t, T', L, h0, X', hL, e1, e2, ⟨⟨r, u, hv, hp, hb⟩, hF⟩, st⟩ | ⟨q, st₀, t, T', L, E, ce, h0, X', hL, e1, e2, ⟨u, hp, hb, hF⟩, hce, hcv, hcl, st⟩
  · cases hv
    obtain ⟨k1, k2, k3⟩ := vx_keep h0 e1 hS hA hf hL hF
    obtain ⟨t2, a1, b1⟩ := kk r u t T'.heap (locs ++ L) e1.symm (by rw [← e2]; exact X'.warmed.alike) hp hb k1 k2 k3 T' rfl X'
    exact ⟨t2, st t2 a1, b1⟩
  · obtain ⟨k1, k2, k3⟩ := vx_keep h0 e1 hS hAX hf hL hF
    obtain ⟨t2, a1, b1⟩ := kx E ce q u t T'.heap (locs ++ L) e1.symm (by rw [← e2]; exact X'.warmed.alike) hp hb k1 k2 k3 (by rw [e1]; exact hce) hcv hcl T' rfl X'
    exact ⟨t2, st.trans a1, b1⟩
end
/-! ===== END ===== -/
/-! ===== BEGIN .. by an interface, a constant ===== -/
section
variable {p : Program} {l : Launch} {e : Env} {R : Room} {s : State} {m : MethodId} {args : Array Value} {below : List Frame} {meth : Method} {c : Code} {H : Heap} {locs : List Loc} {cells slots : Nat} {Q : State → Prop}
variable {mc ms : Nat} {free : Addr → Prop} {A0 A1 : Nat → Prop} {H0 : Heap} {a : Array Value} {pc : Nat} {ls : Array Slot} {st0 rest : List Value}
theorem vx_callFe {ad : Nat → Nat} {S SX : Type} {post : Option Nat → S → Prop} {px : SX → Prop} {B : S → State → Prop} {BX : String → SX → State → Prop} {AX : Nat → Prop} (hr : vx_Run5 p l e R s m args below meth c H locs cells slots mc ms (F0 m pc ls st0) rest (va_Qe ad post B A1 a) (vx_X px BX AX) free) (hS : va_S A0 H0 H locs) (hA : ∀ q, q < H.size → A1 q → A0 q) (hf : ∀ q, free q → A0 q) (hAX : ∀ q, q < H.size → AX q → A0 q)
    (kx : ∀ (E : String) (ce : Cell) (q9 : Addr) (u : SX) (t : State) (H1 : Heap) (locs1 : List Loc), t.heap = H1 → s.vm.Alike t.vm → px u → BX E u t → H.size ≤ H1.size → (∀ q : Nat, q < H.size → ¬ AX q → H1[q]? = H[q]?) → va_S A0 H0 H1 locs1 → H1[q9]? = some ce → ce.vm = .none → s.vm.findClass E = some ce.cls → vx_W p l e R s m args below meth c H1 locs1 (cells + mc) (slots + ms) Q (F0 m pc ls rest) q9)
    (kk : ∀ (r : Option Nat) (u : S) (t : State) (H1 : Heap) (locs1 : List Loc), t.heap = H1 → s.vm.Alike t.vm → post r u → B u t → H.size ≤ H1.size → (∀ q : Nat, q < H.size → ¬ A1 q → H1[q]? = H[q]?) → va_S A0 H0 H1 locs1 → W p l e R s m args below meth c H1 locs1 (cells + mc) (slots + ms) Q (F0 m (pc + 5) ls (va_re ad r :: rest))) : W p l e R s m args below meth c H locs cells slots Q (F0 m pc ls st0) := by
  intro T hT X
  rcases hr T hT X with ⟨v, st₀, t, T', L, h0, X', hL, e1, e2, ⟨⟨r, u, hv, hp, hb⟩, hF⟩, st⟩ | ⟨q, st₀, t, T', L, E, ce, h0, X', hL, e1, e2, ⟨u, hp, hb, hF⟩, hce, hcv, hcl, st⟩
  · cases hv
    obtain ⟨k1, k2, k3⟩ := vx_keep h0 e1 hS hA hf hL hF
    obtain ⟨t2, a1, b1⟩ := kk r u t T'.heap (locs ++ L) e1.symm (by rw [← e2]; exact X'.warmed.alike) hp hb k1 k2 k3 T' rfl X'
    exact ⟨t2, st t2 a1, b1⟩
  · obtain ⟨k1, k2, k3⟩ := vx_keep h0 e1 hS hAX hf hL hF
    obtain ⟨t2, a1, b1⟩ := kx E ce q u t T'.heap (locs ++ L) e1.symm (by rw [← e2]; exact X'.warmed.alike) hp hb k1 k2 k3 (by rw [e1]; exact hce) hcv hcl T' rfl X'
    exact ⟨t2, st.trans a1, b1⟩
end
/-! ===== END ===== -/
/-! ===== BEGIN what the machine throws by itself: null at a field, at athrow ===== -/
section VXM2
variable {p : Program} {l : Launch} {e : Env} {R : Room} {s : State} {m : MethodId} {args : Array Value} {below : List Frame} {meth : Method} {c : Code} {H : Heap} {locs : List Loc} {cells slots : Nat}
variable {Q : State → Prop} {cc : ByteArray} {pc : Nat} {ls : Array Slot} {rest : List Value}
theorem vx_getfN {D cl tys} {own ref C : String} {T : u_T} {N ci index : Nat} {Ts : List Cond} (hexec : p.tables.exec = Jvm.exec) (hb : c.code = cc) (hts : ∀ w ∈ Ts, w.before args s = true) (hin : ∀ w ∈ u_ws C T N, w ∈ Ts) (hown : s.vm.findClass own = some m.cls) (hK : va_K D cl tys s) (hc : cl[ci]? = some (C, T, N)) (k : Nat) (hk : k < N) (hlink : (Cond.fieldLink own index ref (T k).2.1 (T k).2.2.1).before args s = true) (hsame : ∀ x, s.fieldFound? (T k).1 (T k).2.1 (T k).2.2.1 = some x → s.fieldFound? ref (T k).2.1 (T k).2.2.1 = some x) (hdg : decode cc pc = .ok (.getfield index, 3)) (kk : vx_NoteN p l e R s m args below meth c H locs cells slots Q (F0 m pc ls rest)) : W p l e R s m args below meth c H locs cells slots Q (F0 m pc ls (.null :: rest)) := by
  obtain ⟨hS, hfc, kC, hkC, -⟩ := hK.1 ci _ hc
  obtain ⟨cf, kf, fi, f, hi, -⟩ := hS k hk
  intro U hU X
  obtain ⟨vm', X1, st1⟩ := X.getfieldNull hexec hown hlink (hsame _ hi) (u_facts hfc hkC (u_lays hts hin hk) hi).1 (g := F0 m pc ls (.null :: rest)) rfl (rest := rest) rfl (by rw [hb]; exact hdg)
  obtain ⟨t, st, q⟩ := kk (U.setVm vm') hU X1
  exact ⟨t, st1 t st, q⟩
theorem vx_getfNN {D cl tys} {own ref C host : String} {T : u_T} {N ci index : Nat} {Ts : List Cond} (hexec : p.tables.exec = Jvm.exec) (hb : c.code = cc) (hts : ∀ w ∈ Ts, w.before args s = true) (hin : ∀ w ∈ u_ws C T N, w ∈ Ts) (hown : s.vm.findClass own = some m.cls) (hK : va_K D cl tys s) (hc : cl[ci]? = some (C, T, N)) (k : Nat) (hk : k < N) (hlink : (Cond.fieldLinkNest own index ref (T k).2.1 (T k).2.2.1 host).before args s = true) (hsame : ∀ x, s.fieldFound? (T k).1 (T k).2.1 (T k).2.2.1 = some x → s.fieldFound? ref (T k).2.1 (T k).2.2.1 = some x) (hdg : decode cc pc = .ok (.getfield index, 3)) (kk : vx_NoteN p l e R s m args below meth c H locs cells slots Q (F0 m pc ls rest)) : W p l e R s m args below meth c H locs cells slots Q (F0 m pc ls (.null :: rest)) := by
  obtain ⟨hS, hfc, kC, hkC, -⟩ := hK.1 ci _ hc
  obtain ⟨cf, kf, fi, f, hi, -⟩ := hS k hk
  intro U hU X
  obtain ⟨vm', X1, st1⟩ := X.getfieldNullNest hexec hown hlink (hsame _ hi) (u_facts hfc hkC (u_lays hts hin hk) hi).1 (g := F0 m pc ls (.null :: rest)) rfl (rest := rest) rfl (by rw [hb]; exact hdg)
  obtain ⟨t, st, q⟩ := kk (U.setVm vm') hU X1
  exact ⟨t, st1 t st, q⟩
theorem vx_putfN {D cl tys} {own ref C : String} {T : u_T} {N ci index : Nat} {Ts : List Cond} (hexec : p.tables.exec = Jvm.exec) (hb : c.code = cc) (hts : ∀ w ∈ Ts, w.before args s = true) (hin : ∀ w ∈ u_ws C T N, w ∈ Ts) (hown : s.vm.findClass own = some m.cls) (hK : va_K D cl tys s) (hc : cl[ci]? = some (C, T, N)) (k : Nat) (hk : k < N) (hlink : (Cond.fieldLink own index ref (T k).2.1 (T k).2.2.1).before args s = true) (hsame : ∀ x, s.fieldFound? (T k).1 (T k).2.1 (T k).2.2.1 = some x → s.fieldFound? ref (T k).2.1 (T k).2.2.1 = some x) (hfin : (T k).2.2.2 = false) {v : Value} (hdg : decode cc pc = .ok (.putfield index, 3)) (kk : vx_NoteN p l e R s m args below meth c H locs cells slots Q (F0 m pc ls rest)) : W p l e R s m args below meth c H locs cells slots Q (F0 m pc ls (v :: .null :: rest)) := by
  obtain ⟨hS, hfc, kC, hkC, -⟩ := hK.1 ci _ hc
  obtain ⟨cf, kf, fi, f, hi, -⟩ := hS k hk
  have hlay := hts _ (hin _ (u_in_lay hk))
  unfold u_lay at hlay
  rw [if_neg (by rw [hfin]; decide)] at hlay
  obtain ⟨c9, k9, cf9, kf9, fi9, f9, -, -, hi9, hst9, hnf9, -⟩ := Cond.lays_spec hlay
  cases hi.symm.trans hi9
  intro U hU X
  obtain ⟨vm', X1, st1⟩ := X.putfieldNull hexec hown hlink (hsame _ hi) hst9 hnf9 (g := F0 m pc ls (v :: .null :: rest)) rfl (v := v) (rest := rest) rfl (by rw [hb]; exact hdg)
  obtain ⟨t, st, q⟩ := kk (U.setVm vm') hU X1
  exact ⟨t, st1 t st, q⟩
theorem vx_putfNN {D cl tys} {own ref C host : String} {T : u_T} {N ci index : Nat} {Ts : List Cond} (hexec : p.tables.exec = Jvm.exec) (hb : c.code = cc) (hts : ∀ w ∈ Ts, w.before args s = true) (hin : ∀ w ∈ u_ws C T N, w ∈ Ts) (hown : s.vm.findClass own = some m.cls) (hK : va_K D cl tys s) (hc : cl[ci]? = some (C, T, N)) (k : Nat) (hk : k < N) (hlink : (Cond.fieldLinkNest own index ref (T k).2.1 (T k).2.2.1 host).before args s = true) (hsame : ∀ x, s.fieldFound? (T k).1 (T k).2.1 (T k).2.2.1 = some x → s.fieldFound? ref (T k).2.1 (T k).2.2.1 = some x) (hfin : (T k).2.2.2 = false) {v : Value} (hdg : decode cc pc = .ok (.putfield index, 3)) (kk : vx_NoteN p l e R s m args below meth c H locs cells slots Q (F0 m pc ls rest)) : W p l e R s m args below meth c H locs cells slots Q (F0 m pc ls (v :: .null :: rest)) := by
  obtain ⟨hS, hfc, kC, hkC, -⟩ := hK.1 ci _ hc
  obtain ⟨cf, kf, fi, f, hi, -⟩ := hS k hk
  have hlay := hts _ (hin _ (u_in_lay hk))
  unfold u_lay at hlay
  rw [if_neg (by rw [hfin]; decide)] at hlay
  obtain ⟨c9, k9, cf9, kf9, fi9, f9, -, -, hi9, hst9, hnf9, -⟩ := Cond.lays_spec hlay
  cases hi.symm.trans hi9
  intro U hU X
  obtain ⟨vm', X1, st1⟩ := X.putfieldNullNest hexec hown hlink (hsame _ hi) hst9 hnf9 (g := F0 m pc ls (v :: .null :: rest)) rfl (v := v) (rest := rest) rfl (by rw [hb]; exact hdg)
  obtain ⟨t, st, q⟩ := kk (U.setVm vm') hU X1
  exact ⟨t, st1 t st, q⟩
theorem vx_athrowN (hexec : p.tables.exec = Jvm.exec) (hb : c.code = cc) (hdg : decode cc pc = .ok (.athrow, 1)) (k : vx_NoteN p l e R s m args below meth c H locs cells slots Q (F0 m pc ls rest)) : W p l e R s m args below meth c H locs cells slots Q (F0 m pc ls (.null :: rest)) := by
  intro T hT X
  obtain ⟨t, st, q⟩ := k T hT X
  exact ⟨t, X.athrowNull hexec (g := F0 m pc ls (.null :: rest)) rfl (rest := rest) rfl (by rw [hb]; exact hdg) t st, q⟩
end VXM2
/-! ===== END ===== -/
end
section
def RX0 : String := "DecisionDiagrams$Diagram"
def TX0 : u_T := fun k => match k with
  | 0 => ("DecisionDiagrams$Diagram", "tables", "LDecisionDiagrams$Tables;", true)
  | 1 => ("DecisionDiagrams$Diagram", "levels", "[I", true)
  | 2 => ("DecisionDiagrams$Diagram", "low", "[I", true)
  | 3 => ("DecisionDiagrams$Diagram", "high", "[I", true)
  | 4 => ("DecisionDiagrams$Diagram", "reachedBy", "[I", true)
  | 5 => ("DecisionDiagrams$Diagram", "roots", "[I", true)
  | 6 => ("DecisionDiagrams$Diagram", "order", "[I", true)
  | 7 => ("DecisionDiagrams$Diagram", "slots", "[I", true)
  | 8 => ("DecisionDiagrams$Diagram", "met", "[I", true)
  | 9 => ("DecisionDiagrams$Diagram", "functions", "I", false)
  | 10 => ("DecisionDiagrams$Diagram", "variables", "I", false)
  | 11 => ("DecisionDiagrams$Diagram", "pairs", "I", false)
  | _ => ("DecisionDiagrams$Diagram", "nodes", "I", false)
def tyX0 : Nat → FieldType := fun k => match k with
  | 0 => .object "DecisionDiagrams$Tables"
  | 1 => .array .int
  | 2 => .array .int
  | 3 => .array .int
  | 4 => .array .int
  | 5 => .array .int
  | 6 => .array .int
  | 7 => .array .int
  | 8 => .array .int
  | 9 => .int
  | 10 => .int
  | 11 => .int
  | _ => .int
abbrev wsX00 : List Cond := u_ws RX0 TX0 13
theorem nmX0 : ∀ a, a < 13 → ∀ b, b < 13 → a ≠ b → (TX0 a).2.1 ≠ (TX0 b).2.1 := by decide +kernel
theorem tyX0_ok : ∀ k, k < 13 → parseFieldDescriptor (TX0 k).2.2.1 = some (tyX0 k) := by decide +kernel
def RX1 : String := "DecisionDiagrams$History"
def TX1 : u_T := fun k => match k with
  | 0 => ("DecisionDiagrams$History", "past", "[LDecisionDiagrams$State;", true)
  | 1 => ("DecisionDiagrams$History", "next", "I", false)
  | 2 => ("DecisionDiagrams$History", "changes", "I", false)
  | 3 => ("DecisionDiagrams$History", "saved", "[LDecisionDiagrams$State;", true)
  | _ => ("DecisionDiagrams$History", "isSaved", "[Z", true)
def tyX1 : Nat → FieldType := fun k => match k with
  | 0 => .array (.object "DecisionDiagrams$State")
  | 1 => .int
  | 2 => .int
  | 3 => .array (.object "DecisionDiagrams$State")
  | _ => .array .boolean
abbrev wsX10 : List Cond := u_ws RX1 TX1 5
theorem nmX1 : ∀ a, a < 5 → ∀ b, b < 5 → a ≠ b → (TX1 a).2.1 ≠ (TX1 b).2.1 := by decide +kernel
theorem tyX1_ok : ∀ k, k < 5 → parseFieldDescriptor (TX1 k).2.2.1 = some (tyX1 k) := by decide +kernel
def RX2 : String := "DecisionDiagrams$Input"
def TX2 : u_T := fun k => match k with
  | 0 => ("DecisionDiagrams$Input", "bytes", "[B", true)
  | _ => ("DecisionDiagrams$Input", "length", "I", false)
def tyX2 : Nat → FieldType := fun k => match k with
  | 0 => .array .byte
  | _ => .int
abbrev wsX20 : List Cond := u_ws RX2 TX2 2
theorem nmX2 : ∀ a, a < 2 → ∀ b, b < 2 → a ≠ b → (TX2 a).2.1 ≠ (TX2 b).2.1 := by decide +kernel
theorem tyX2_ok : ∀ k, k < 2 → parseFieldDescriptor (TX2 k).2.2.1 = some (tyX2 k) := by decide +kernel
def RX3 : String := "DecisionDiagrams$Reader"
def TX3 : u_T := fun k => match k with
  | 0 => ("DecisionDiagrams$Reader", "draft", "LDecisionDiagrams$State;", true)
  | 1 => ("DecisionDiagrams$Reader", "tokens", "LDecisionDiagrams$Tokens;", true)
  | 2 => ("DecisionDiagrams$Reader", "sifter", "LDecisionDiagrams$Sifter;", true)
  | 3 => ("DecisionDiagrams$Reader", "values", "LDecisionDiagrams$Tables;", true)
  | 4 => ("DecisionDiagrams$Reader", "prefixes", "[I", true)
  | 5 => ("DecisionDiagrams$Reader", "prefixCount", "I", false)
  | 6 => ("DecisionDiagrams$Reader", "code", "I", false)
  | _ => ("DecisionDiagrams$Reader", "position", "I", false)
def tyX3 : Nat → FieldType := fun k => match k with
  | 0 => .object "DecisionDiagrams$State"
  | 1 => .object "DecisionDiagrams$Tokens"
  | 2 => .object "DecisionDiagrams$Sifter"
  | 3 => .object "DecisionDiagrams$Tables"
  | 4 => .array .int
  | 5 => .int
  | 6 => .int
  | _ => .int
abbrev wsX30 : List Cond := u_ws RX3 TX3 8
theorem nmX3 : ∀ a, a < 8 → ∀ b, b < 8 → a ≠ b → (TX3 a).2.1 ≠ (TX3 b).2.1 := by decide +kernel
theorem tyX3_ok : ∀ k, k < 8 → parseFieldDescriptor (TX3 k).2.2.1 = some (tyX3 k) := by decide +kernel
def RX4 : String := "DecisionDiagrams$Sifter"
def TX4 : u_T := fun k => match k with
  | 0 => ("DecisionDiagrams$Sifter", "trial", "LDecisionDiagrams$Diagram;", true)
  | _ => ("DecisionDiagrams$Sifter", "testing", "[I", true)
def tyX4 : Nat → FieldType := fun k => match k with
  | 0 => .object "DecisionDiagrams$Diagram"
  | _ => .array .int
abbrev wsX40 : List Cond := u_ws RX4 TX4 2
theorem nmX4 : ∀ a, a < 2 → ∀ b, b < 2 → a ≠ b → (TX4 a).2.1 ≠ (TX4 b).2.1 := by decide +kernel
theorem tyX4_ok : ∀ k, k < 2 → parseFieldDescriptor (TX4 k).2.2.1 = some (tyX4 k) := by decide +kernel
def RX5 : String := "DecisionDiagrams$State"
def TX5 : u_T := fun k => match k with
  | 0 => ("DecisionDiagrams$State", "tables", "LDecisionDiagrams$Tables;", true)
  | 1 => ("DecisionDiagrams$State", "functionNames", "[J", true)
  | 2 => ("DecisionDiagrams$State", "variableNames", "[J", true)
  | 3 => ("DecisionDiagrams$State", "order", "[I", true)
  | 4 => ("DecisionDiagrams$State", "costs", "[I", true)
  | 5 => ("DecisionDiagrams$State", "percents", "[I", true)
  | 6 => ("DecisionDiagrams$State", "functions", "I", false)
  | _ => ("DecisionDiagrams$State", "variables", "I", false)
def tyX5 : Nat → FieldType := fun k => match k with
  | 0 => .object "DecisionDiagrams$Tables"
  | 1 => .array .long
  | 2 => .array .long
  | 3 => .array .int
  | 4 => .array .int
  | 5 => .array .int
  | 6 => .int
  | _ => .int
abbrev wsX50 : List Cond := u_ws RX5 TX5 8
theorem nmX5 : ∀ a, a < 8 → ∀ b, b < 8 → a ≠ b → (TX5 a).2.1 ≠ (TX5 b).2.1 := by decide +kernel
theorem tyX5_ok : ∀ k, k < 8 → parseFieldDescriptor (TX5 k).2.2.1 = some (tyX5 k) := by decide +kernel
def RX6 : String := "DecisionDiagrams$Tables"
def TX6 : u_T := fun k => match k with
  | 0 => ("DecisionDiagrams$Tables", "bits", "[J", true)
  | _ => ("DecisionDiagrams$Tables", "words", "I", false)
def tyX6 : Nat → FieldType := fun k => match k with
  | 0 => .array .long
  | _ => .int
abbrev wsX60 : List Cond := u_ws RX6 TX6 2
theorem nmX6 : ∀ a, a < 2 → ∀ b, b < 2 → a ≠ b → (TX6 a).2.1 ≠ (TX6 b).2.1 := by decide +kernel
theorem tyX6_ok : ∀ k, k < 2 → parseFieldDescriptor (TX6 k).2.2.1 = some (tyX6 k) := by decide +kernel
def RX7 : String := "DecisionDiagrams$Tokens"
def TX7 : u_T := fun k => match k with
  | 0 => ("DecisionDiagrams$Tokens", "bytes", "[B", false)
  | 1 => ("DecisionDiagrams$Tokens", "length", "I", false)
  | 2 => ("DecisionDiagrams$Tokens", "end", "I", false)
  | 3 => ("DecisionDiagrams$Tokens", "kind", "I", false)
  | 4 => ("DecisionDiagrams$Tokens", "start", "I", false)
  | 5 => ("DecisionDiagrams$Tokens", "number", "I", false)
  | 6 => ("DecisionDiagrams$Tokens", "sign", "I", false)
  | _ => ("DecisionDiagrams$Tokens", "word", "J", false)
def tyX7 : Nat → FieldType := fun k => match k with
  | 0 => .array .byte
  | 1 => .int
  | 2 => .int
  | 3 => .int
  | 4 => .int
  | 5 => .int
  | 6 => .int
  | _ => .long
abbrev wsX70 : List Cond := u_ws RX7 TX7 8
theorem nmX7 : ∀ a, a < 8 → ∀ b, b < 8 → a ≠ b → (TX7 a).2.1 ≠ (TX7 b).2.1 := by decide +kernel
theorem tyX7_ok : ∀ k, k < 8 → parseFieldDescriptor (TX7 k).2.2.1 = some (tyX7 k) := by decide +kernel
def RX8 : String := "DecisionDiagrams$Written"
def TX8 : u_T := fun k => match k with
  | 0 => ("DecisionDiagrams$Written", "bytes", "[B", true)
  | _ => ("DecisionDiagrams$Written", "length", "I", false)
def tyX8 : Nat → FieldType := fun k => match k with
  | 0 => .array .byte
  | _ => .int
abbrev wsX80 : List Cond := u_ws RX8 TX8 2
theorem nmX8 : ∀ a, a < 2 → ∀ b, b < 2 → a ≠ b → (TX8 a).2.1 ≠ (TX8 b).2.1 := by decide +kernel
theorem tyX8_ok : ∀ k, k < 2 → parseFieldDescriptor (TX8 k).2.2.1 = some (tyX8 k) := by decide +kernel
def RX9 : String := "DecisionDiagrams"
def TX9 : u_T := fun k => match k with
  | 0 => ("DecisionDiagrams", "input", "LDecisionDiagrams$Input;", true)
  | 1 => ("DecisionDiagrams", "reader", "LDecisionDiagrams$Reader;", true)
  | 2 => ("DecisionDiagrams", "state", "LDecisionDiagrams$State;", true)
  | 3 => ("DecisionDiagrams", "history", "LDecisionDiagrams$History;", true)
  | 4 => ("DecisionDiagrams", "diagram", "LDecisionDiagrams$Diagram;", true)
  | 5 => ("DecisionDiagrams", "sifter", "LDecisionDiagrams$Sifter;", true)
  | 6 => ("DecisionDiagrams", "written", "LDecisionDiagrams$Written;", true)
  | _ => ("DecisionDiagrams", "drawn", "Z", false)
def tyX9 : Nat → FieldType := fun k => match k with
  | 0 => .object "DecisionDiagrams$Input"
  | 1 => .object "DecisionDiagrams$Reader"
  | 2 => .object "DecisionDiagrams$State"
  | 3 => .object "DecisionDiagrams$History"
  | 4 => .object "DecisionDiagrams$Diagram"
  | 5 => .object "DecisionDiagrams$Sifter"
  | 6 => .object "DecisionDiagrams$Written"
  | _ => .boolean
abbrev wsX90 : List Cond := u_ws RX9 TX9 8
theorem nmX9 : ∀ a, a < 8 → ∀ b, b < 8 → a ≠ b → (TX9 a).2.1 ≠ (TX9 b).2.1 := by decide +kernel
theorem tyX9_ok : ∀ k, k < 8 → parseFieldDescriptor (TX9 k).2.2.1 = some (tyX9 k) := by decide +kernel
def RX10 : String := "DecisionDiagramsLaw$Truth"
def TX10 : u_T := fun k => match k with
  | 0 => ("DecisionDiagramsLaw$Truth", "n", "I", true)
  | 1 => ("DecisionDiagramsLaw$Truth", "all", "J", true)
  | 2 => ("DecisionDiagramsLaw$Truth", "now", "[J", false)
  | 3 => ("DecisionDiagramsLaw$Truth", "many", "I", false)
  | 4 => ("DecisionDiagramsLaw$Truth", "kept", "[J", true)
  | 5 => ("DecisionDiagramsLaw$Truth", "keptMany", "[I", true)
  | _ => ("DecisionDiagramsLaw$Truth", "changes", "I", false)
def tyX10 : Nat → FieldType := fun k => match k with
  | 0 => .int
  | 1 => .long
  | 2 => .array .long
  | 3 => .int
  | 4 => .array .long
  | 5 => .array .int
  | _ => .int
abbrev wsX100 : List Cond := u_ws RX10 TX10 7
theorem nmX10 : ∀ a, a < 7 → ∀ b, b < 7 → a ≠ b → (TX10 a).2.1 ≠ (TX10 b).2.1 := by decide +kernel
theorem tyX10_ok : ∀ k, k < 7 → parseFieldDescriptor (TX10 k).2.2.1 = some (tyX10 k) := by decide +kernel
def RJ0 : String := "java/lang/String"
def TJ0 : u_T := fun k => match k with
  | 0 => ("java/lang/String", "value", "[B", true)
  | 1 => ("java/lang/String", "coder", "B", true)
  | 2 => ("java/lang/String", "hash", "I", false)
  | _ => ("java/lang/String", "hashIsZero", "Z", false)
def tyJ0 : Nat → FieldType := fun k => match k with
  | 0 => .array .byte
  | 1 => .byte
  | 2 => .int
  | _ => .boolean
abbrev wsJ00 : List Cond := u_ws RJ0 TJ0 4
theorem nmJ0 : ∀ a, a < 4 → ∀ b, b < 4 → a ≠ b → (TJ0 a).2.1 ≠ (TJ0 b).2.1 := by decide +kernel
theorem tyJ0_ok : ∀ k, k < 4 → parseFieldDescriptor (TJ0 k).2.2.1 = some (tyJ0 k) := by decide +kernel
def RJ4 : String := "java/lang/StringBuilder"
def TJ4 : u_T := fun k => match k with
  | 0 => ("java/lang/AbstractStringBuilder", "value", "[B", false)
  | 1 => ("java/lang/AbstractStringBuilder", "coder", "B", false)
  | 2 => ("java/lang/AbstractStringBuilder", "maybeLatin1", "Z", false)
  | _ => ("java/lang/AbstractStringBuilder", "count", "I", false)
def tyJ4 : Nat → FieldType := fun k => match k with
  | 0 => .array .byte
  | 1 => .byte
  | 2 => .boolean
  | _ => .int
abbrev wsJ40 : List Cond := u_ws RJ4 TJ4 4
theorem nmJ4 : ∀ a, a < 4 → ∀ b, b < 4 → a ≠ b → (TJ4 a).2.1 ≠ (TJ4 b).2.1 := by decide +kernel
theorem tyJ4_ok : ∀ k, k < 4 → parseFieldDescriptor (TJ4 k).2.2.1 = some (tyJ4 k) := by decide +kernel
def RJ5 : String := "java/lang/AbstractStringBuilder"
abbrev vwCl : List vw_C := [(RX0, TX0, 13), (RX1, TX1, 5), (RX2, TX2, 2), (RX3, TX3, 8), (RX4, TX4, 2), (RX5, TX5, 8), (RX6, TX6, 2), (RX7, TX7, 8), (RX8, TX8, 2), (RX9, TX9, 8), (RX10, TX10, 7), (RJ0, TJ0, 4), (RJ4, TJ4, 4)]
end
section
/-! private methods of AbstractStringBuilder, called on a StringBuilder: they select themselves -/
def lx_y : List MethodName := [⟨RJ5, "ensureCapacityInternal", "(I)V"⟩, ⟨RJ5, "newCapacity", "(I)I"⟩, ⟨RJ5, "putStringAt", "(ILjava/lang/String;)V"⟩, ⟨RJ5, "inflateIfNeededFor", "(Ljava/lang/String;)V"⟩]
def lx_sel : List Cond := lx_y.map (fun y => Cond.selects RJ4 y y)
def lx_tbl : List Cond := lx_sel ++ lw_tbl
def lx_gv : MethodName := ⟨RJ5, "getValue", "()[B"⟩
theorem lx_W : Cond.selects RJ4 lx_gv lx_gv ∈ lw_tbl ∧ ∀ y ∈ lx_y, Cond.privateMethod y ∈ lw_tbl ∧ Cond.instanceMethod y ∈ lw_tbl ∧ y.cls = RJ5 := ⟨by decide +kernel, by decide +kernel⟩
theorem lx_hts {args : Array Value} {s : State} (hts : ∀ w ∈ lw_tbl, w.before args s = true) : ∀ w ∈ lx_tbl, w.before args s = true := by
  intro w hw
  rcases List.mem_append.mp hw with hw | hw
  · obtain ⟨y, hy, rfl⟩ := List.mem_map.mp hw
    obtain ⟨h1, h2, h3⟩ := lx_W.2 y hy
    obtain ⟨c, r, m, q1, q2, q3, q4, kP, hkP, hni⟩ := Cond.selects_spec (args := args) (first := s) (o := none) (s := s) (idx := []) (hts _ lx_W.1)
    obtain ⟨mk, methM, hnamed, hmethM, -, -⟩ := Cond.instanceMethod_spec (hts _ h2)
    have hyc : y.cls ≠ "java/lang/invoke/MethodHandle" ∧ y.cls ≠ "java/lang/invoke/VarHandle" := by
      rw [h3]
      exact ⟨by decide +kernel, by decide +kernel⟩
    have hfound : s.methodFound? y.cls y.name y.desc = some mk := State.methodFound?_of_named hnamed hyc
    have e1 : s.vm.findClass y.cls = some mk.cls := findClass_of_methodNamed hnamed
    have e2 : s.vm.findClass RJ5 = some m.cls := findClass_of_methodNamed q3
    rw [h3] at e1
    have hcls : mk.cls = m.cls := Option.some.inj (e1.symm.trans e2)
    have hk : s.vm.classes[mk.cls]? = some kP := by rw [hcls]; exact hkP
    have hsel : selectMethod {} s.vm c mk = .method mk := selectMethod_private hmethM (Cond.privateMethod_at (hts _ h1) mk methM hnamed hmethM)
    simp only [Cond.before, Cond.holds, Cond.value, q1, hfound, hnamed, hsel, hk]
    simp
    exact hni
  · exact hts w hw
end
section
/-! THE MINI MACHINE: a small pure interpreter of the program's own bytecode over a heap of PLACES (the k-th cell that is made is place k; a reference is its place). Old things (static arrays, the script, String constants) have places from 1000000 on. -/
abbrev mm_C : Type := (Nat × vp_A) ⊕ (Nat × List Value)
abbrev mm_H : Type := List mm_C × Bool × Nat × Nat
abbrev mm_L : Type := List (Option Value)
/-- kind, four numbers, the instruction, handlers: the class thrown, the handler's pc, the length of its astore, its local -/
abbrev mm_Op : Type := Nat × Nat × Nat × Nat × Nat × Instr × List (String × Nat × Nat × Nat)
abbrev mm_Code : Type := List (Nat × Nat × mm_Op)
abbrev mm_R : Type := (Option Value ⊕ String) × mm_H
abbrev mm_N : Type := (Nat × mm_L × List Value × mm_H) ⊕ mm_R
def mm_ii (f : Int32 → Int32 → Int32) (S : List Value) : Option (List Value) := match S with
  | .int y :: .int x :: r => some (.int (f x y) :: r)
  | _ => none
def mm_iz (f : Int32 → Int32 → Int32) (S : List Value) : Option (List Value) := match S with
  | .int y :: .int x :: r => if y = 0 then none else some (.int (f x y) :: r)
  | _ => none
def mm_jj (f : Int64 → Int64 → Int64) (S : List Value) : Option (List Value) := match S with
  | .long y :: .long x :: r => some (.long (f x y) :: r)
  | _ => none
def mm_ji (f : Int64 → Int32 → Int64) (S : List Value) : Option (List Value) := match S with
  | .int y :: .long x :: r => some (.long (f x y) :: r)
  | _ => none
def mm_dd (f : UInt64 → UInt64 → UInt64) (S : List Value) : Option (List Value) := match S with
  | .double y :: .double x :: r => if f x y &&& 0x7fffffffffffffff ≤ 0x7ff0000000000000 then some (.double (f x y) :: r) else none
  | _ => none
def mm_i (f : Int32 → Value) (S : List Value) : Option (List Value) := match S with
  | .int x :: r => some (f x :: r)
  | _ => none
def mm_j (f : Int64 → Value) (S : List Value) : Option (List Value) := match S with
  | .long x :: r => some (f x :: r)
  | _ => none
/-- instructions over the operand stack alone -/
def mm_alu (i : Instr) (S : List Value) : Option (List Value) := match i with
  | .iconst n => some (.int (Int32.ofInt n) :: S)
  | .bipush n => some (.int (Int8.ofInt n).toInt32 :: S)
  | .sipush n => some (.int (Int16.ofInt n).toInt32 :: S)
  | .lconst n => some (.long (Int64.ofNat (n : Nat)) :: S)
  | .dconst n => if (n : Nat) = 0 then some (.double FP.dconst0 :: S) else if (n : Nat) = 1 then some (.double FP.dconst1 :: S) else none
  | .aconst_null => some (.null :: S)
  | .iadd => mm_ii (fun x y => x + y) S
  | .isub => mm_ii (fun x y => x - y) S
  | .imul => mm_ii (fun x y => x * y) S
  | .iand => mm_ii (fun x y => x &&& y) S
  | .ior => mm_ii (fun x y => x ||| y) S
  | .ixor => mm_ii (fun x y => x ^^^ y) S
  | .ishl => mm_ii (fun x y => x <<< (y &&& 31)) S
  | .ishr => mm_ii (fun x y => x >>> (y &&& 31)) S
  | .iushr => mm_ii (fun x y => (x.toUInt32 >>> (y.toUInt32 &&& Int32.toUInt32 31)).toInt32) S
  | .idiv => mm_iz (fun x y => x / y) S
  | .irem => mm_iz (fun x y => x - x / y * y) S
  | .ineg => mm_i (fun x => .int (-x)) S
  | .ladd => mm_jj (fun x y => x + y) S
  | .lsub => mm_jj (fun x y => x - y) S
  | .lmul => mm_jj (fun x y => x * y) S
  | .land => mm_jj (fun x y => x &&& y) S
  | .lor => mm_jj (fun x y => x ||| y) S
  | .lxor => mm_jj (fun x y => x ^^^ y) S
  | .lneg => mm_j (fun x => .long (-x)) S
  | .lshl => mm_ji (fun x y => x <<< (y.toInt64 &&& 63)) S
  | .lshr => mm_ji (fun x y => x >>> (y.toInt64 &&& 63)) S
  | .lushr => mm_ji (fun x y => (x.toUInt64 >>> (y.toInt64.toUInt64 &&& Int64.toUInt64 63)).toInt64) S
  | .lcmp => (match S with
    | .long y :: .long x :: r => some (.int (lg_cmp x y) :: r)
    | _ => none)
  | .i2l => mm_i (fun x => .long x.toInt64) S
  | .l2i => mm_j (fun x => .int x.toInt32) S
  | .i2b => mm_i (fun x => .int x.toInt8.toInt32) S
  | .i2c => mm_i (fun x => .int (x.toUInt32 % 65536).toInt32) S
  | .i2d => mm_i (fun x => .double (FP.i2d x)) S
  | .dadd => mm_dd FP.dadd S
  | .dsub => mm_dd FP.dsub S
  | .dmul => mm_dd FP.dmul S
  | .ddiv => mm_dd FP.ddiv S
  | .dcmp op => (match S with
    | .double y :: .double x :: r => some (.int (Op.cmpValue (FP.dcmp x y) op) :: r)
    | _ => none)
  | .dup => (match S with
    | v :: r => if v.category = 1 then some (v :: v :: r) else none
    | _ => none)
  | .pop => (match S with
    | v :: r => if v.category = 1 then some r else none
    | _ => none)
  | .dup_x1 => (match S with
    | v :: w :: r => if v.category = 1 ∧ w.category = 1 then some (v :: w :: v :: r) else none
    | _ => none)
  | .dup2 => (match S with
    | v :: r => if v.category = 2 then some (v :: v :: r) else (match r with
      | w :: q => if v.category = 1 ∧ w.category = 1 then some (v :: w :: v :: w :: q) else none
      | _ => none)
    | _ => none)
  | _ => none
def mm_c0 (c : ClassFile.Cond) (x y : Int32) : Prop := match c with
  | .eq => x = y
  | .ne => ¬ x = y
  | .lt => x < y
  | .ge => y ≤ x
  | .gt => y < x
  | .le => x ≤ y
def mm_c0d (c : ClassFile.Cond) (x y : Int32) : Decidable (mm_c0 c x y) := match c with
  | .eq => inferInstanceAs (Decidable (x = y))
  | .ne => inferInstanceAs (Decidable (¬ x = y))
  | .lt => inferInstanceAs (Decidable (x < y))
  | .ge => inferInstanceAs (Decidable (y ≤ x))
  | .gt => inferInstanceAs (Decidable (y < x))
  | .le => inferInstanceAs (Decidable (x ≤ y))
/-- a jump's target -/
def mm_to (pc : Nat) (off : Int) : Option Nat := match (pc : Int) + off with
  | .ofNat t => some t
  | .negSucc _ => none
/-- jumps: the next pc, and the stack -/
def mm_br (pc len : Nat) (i : Instr) (S : List Value) : Option (Nat × List Value) := match i with
  | .goto off => (match mm_to pc off with
    | some t => some (t, S)
    | none => none)
  | .ifCond c off => (match mm_to pc off with
    | some t => (match S with
      | .int x :: r => @ite _ (mm_c0 c x 0) (mm_c0d c x 0) (some (t, r)) (some (pc + len, r))
      | _ => none)
    | none => none)
  | .if_icmp c off => (match mm_to pc off with
    | some t => (match S with
      | .int y :: .int x :: r => @ite _ (mm_c0 c x y) (mm_c0d c x y) (some (t, r)) (some (pc + len, r))
      | _ => none)
    | none => none)
  | .ifnull off => (match mm_to pc off with
    | some t => (match S with
      | .null :: r => some (t, r)
      | .ref _ :: r => some (pc + len, r)
      | _ => none)
    | none => none)
  | .ifnonnull off => (match mm_to pc off with
    | some t => (match S with
      | .null :: r => some (pc + len, r)
      | .ref _ :: r => some (t, r)
      | _ => none)
    | none => none)
  | .tableswitch d lo hi offs => (match S with
    | .int x :: r => if x.toInt < lo ∨ hi < x.toInt then (match mm_to pc d with
        | some t => some (t, r)
        | none => none) else (match offs[(x.toInt - lo).toNat]? with
      | some off => (match mm_to pc off with
        | some t => some (t, r)
        | none => none)
      | none => none)
    | _ => none)
  | _ => none
/-- locals -/
def mm_kl (L : mm_L) (k : Nat) : mm_L := match k with
  | 0 => L
  | j + 1 => (match L[j]? with
    | some (some v) => if v.category = 2 then L.set j none else L
    | _ => L)
def mm_st1 (L : mm_L) (k : Nat) (v : Value) : Option mm_L := if k < L.length then some ((mm_kl L k).set k (some v)) else none
def mm_st2 (L : mm_L) (k : Nat) (v : Value) : Option mm_L := if k + 1 < L.length then some (((mm_kl L k).set k (some v)).set (k + 1) none) else none
def mm_ldi (L : mm_L) (k : Nat) (S : List Value) : Option (mm_L × List Value) := match L[k]? with
  | some (some (.int x)) => some (L, .int x :: S)
  | _ => none
def mm_ldj (L : mm_L) (k : Nat) (S : List Value) : Option (mm_L × List Value) := match L[k]? with
  | some (some (.long x)) => some (L, .long x :: S)
  | _ => none
def mm_ldd (L : mm_L) (k : Nat) (S : List Value) : Option (mm_L × List Value) := match L[k]? with
  | some (some (.double x)) => some (L, .double x :: S)
  | _ => none
def mm_lda (L : mm_L) (k : Nat) (S : List Value) : Option (mm_L × List Value) := match L[k]? with
  | some (some (.ref x)) => some (L, .ref x :: S)
  | some (some .null) => some (L, .null :: S)
  | some (some (.retAddr x)) => some (L, .retAddr x :: S)
  | _ => none
def mm_sti (L : mm_L) (k : Nat) (S : List Value) : Option (mm_L × List Value) := match S with
  | .int x :: r => (mm_st1 L k (.int x)).map (fun L' => (L', r))
  | _ => none
def mm_stj (L : mm_L) (k : Nat) (S : List Value) : Option (mm_L × List Value) := match S with
  | .long x :: r => (mm_st2 L k (.long x)).map (fun L' => (L', r))
  | _ => none
def mm_std (L : mm_L) (k : Nat) (S : List Value) : Option (mm_L × List Value) := match S with
  | .double x :: r => (mm_st2 L k (.double x)).map (fun L' => (L', r))
  | _ => none
def mm_sta (L : mm_L) (k : Nat) (S : List Value) : Option (mm_L × List Value) := match S with
  | .ref x :: r => (mm_st1 L k (.ref x)).map (fun L' => (L', r))
  | .null :: r => (mm_st1 L k .null).map (fun L' => (L', r))
  | _ => none
def mm_inc (L : mm_L) (k : Nat) (n : Int) (S : List Value) : Option (mm_L × List Value) := match L[k]? with
  | some (some (.int x)) => (mm_st1 L k (.int (x + Int32.ofInt n))).map (fun L' => (L', S))
  | _ => none
def mm_loc (i : Instr) (L : mm_L) (S : List Value) : Option (mm_L × List Value) := match i with
  | .iload k => mm_ldi L k S
  | .iload_n k => mm_ldi L k S
  | .lload k => mm_ldj L k S
  | .lload_n k => mm_ldj L k S
  | .dload k => mm_ldd L k S
  | .dload_n k => mm_ldd L k S
  | .aload k => mm_lda L k S
  | .aload_n k => mm_lda L k S
  | .istore k => mm_sti L k S
  | .istore_n k => mm_sti L k S
  | .lstore k => mm_stj L k S
  | .lstore_n k => mm_stj L k S
  | .dstore k => mm_std L k S
  | .dstore_n k => mm_std L k S
  | .astore k => mm_sta L k S
  | .astore_n k => mm_sta L k S
  | .iinc k n => mm_inc L k n S
  | _ => none
/-- arrays that are read: by their places, old ones from 'old' -/
def mm_arr (old : Nat → Option (Nat × vp_A)) (σ : mm_H) (a : Nat) : Option (Nat × vp_A) := if a < 1000000 then (match σ.1[a]? with
  | some (.inl x) => some x
  | _ => none) else old a
def mm_ard (old : Nat → Option (Nat × vp_A)) (i : Instr) (σ : mm_H) (S : List Value) : Option (List Value) := match i with
  | .iaload => (match S with
    | .int j :: .ref a :: r => (match mm_arr old σ a with
      | some (0, n, .inl f) => if j < 0 ∨ n ≤ j.toNatClampNeg then none else some (.int (f j.toNatClampNeg) :: r)
      | _ => none)
    | _ => none)
  | .laload => (match S with
    | .int j :: .ref a :: r => (match mm_arr old σ a with
      | some (1, n, .inr (.inl f)) => if j < 0 ∨ n ≤ j.toNatClampNeg then none else some (.long (f j.toNatClampNeg) :: r)
      | _ => none)
    | _ => none)
  | .baload => (match S with
    | .int j :: .ref a :: r => (match mm_arr old σ a with
      | some (2, n, .inl f) => if j < 0 ∨ n ≤ j.toNatClampNeg then none else some (.int (f j.toNatClampNeg) :: r)
      | some (3, n, .inl f) => if j < 0 ∨ n ≤ j.toNatClampNeg then none else some (.int (f j.toNatClampNeg) :: r)
      | _ => none)
    | _ => none)
  | .aaload => (match S with
    | .int j :: .ref a :: r => (match mm_arr old σ a with
      | some (5, n, .inr (.inr (.inr (.inr f)))) => if j < 0 ∨ n ≤ j.toNatClampNeg then none else some (va_rf (f j.toNatClampNeg) :: r)
      | _ => none)
    | _ => none)
  | .arraylength => (match S with
    | .ref a :: r => (match mm_arr old σ a with
      | some (t, n, _) => if t < 6 then some (.int (Int32.ofNat n) :: r) else none
      | _ => none)
    | _ => none)
  | _ => none
def mm_set (σ : mm_H) (a : Nat) (x : mm_C) : mm_H := (σ.1.set a x, σ.2)
def mm_awr (i : Instr) (σ : mm_H) (S : List Value) : Option (mm_H × List Value) := match i with
  | .iastore => (match S with
    | .int x :: .int j :: .ref a :: r => (match σ.1[a]? with
      | some (.inl (0, n, .inl f)) => if j < 0 ∨ n ≤ j.toNatClampNeg then none else some (mm_set σ a (.inl (0, n, .inl (upd f j.toNatClampNeg x))), r)
      | _ => none)
    | _ => none)
  | .lastore => (match S with
    | .long x :: .int j :: .ref a :: r => (match σ.1[a]? with
      | some (.inl (1, n, .inr (.inl f))) => if j < 0 ∨ n ≤ j.toNatClampNeg then none else some (mm_set σ a (.inl (1, n, .inr (.inl (vp_updL f j.toNatClampNeg x)))), r)
      | _ => none)
    | _ => none)
  | .bastore => (match S with
    | .int x :: .int j :: .ref a :: r => (match σ.1[a]? with
      | some (.inl (2, n, .inl f)) => if j < 0 ∨ n ≤ j.toNatClampNeg then none else some (mm_set σ a (.inl (2, n, .inl (upd f j.toNatClampNeg (vp_nar .byte x)))), r)
      | some (.inl (3, n, .inl f)) => if j < 0 ∨ n ≤ j.toNatClampNeg then none else some (mm_set σ a (.inl (3, n, .inl (upd f j.toNatClampNeg (vp_nar .boolean x)))), r)
      | _ => none)
    | _ => none)
  | .aastore => (match S with
    | .ref v :: .int j :: .ref a :: r => (match σ.1[a]? with
      | some (.inl (5, n, .inr (.inr (.inr (.inr f))))) => if j < 0 ∨ n ≤ j.toNatClampNeg then none else (match σ.1[v]? with
        | some (.inr (5, _)) => some (mm_set σ a (.inl (5, n, .inr (.inr (.inr (.inr (va_up f j.toNatClampNeg (some v))))))), r)
        | _ => none)
      | _ => none)
    | _ => none)
  | _ => none
end
section
/-! the mini machine: fields, making, calls, the run. mm_P: old arrays, old objects' fields, constants, statics, new objects' first values, fields' types -/
abbrev mm_P : Type := (Nat → Option (Nat × vp_A)) × (Nat → Nat → Option Value) × (Nat → Option Value) × (Nat → Option Value) × (Nat → Option (List Value)) × (Nat → Nat → Option FieldType)
def mm_rt (a : Nat) : FieldType := match a with
  | 0 => .int
  | 1 => .boolean
  | 2 => .char
  | _ => .byte
/-- what a return instruction gives (outer none: not allowed) -/
def mm_ret (a : Nat) (i : Instr) (S : List Value) : Option (Option Value) := match i with
  | .ireturn => (match S with
    | [.int v] => if a = 0 ∨ narrow (mm_rt a) (.int v) = .int v then some (some (.int v)) else none
    | _ => none)
  | .lreturn => (match S with
    | [.long v] => some (some (.long v))
    | _ => none)
  | .dreturn => (match S with
    | [.double v] => some (some (.double v))
    | _ => none)
  | .areturn => (match S with
    | [.ref v] => some (some (.ref v))
    | [.null] => some (some .null)
    | _ => none)
  | .return_ => (match S with
    | [] => some none
    | _ => none)
  | _ => none
def mm_getf (σ : mm_H) (ci k : Nat) (S : List Value) : Option (List Value) := match S with
  | .ref a :: r => (match σ.1[a]? with
    | some (.inr (c, fs)) => if c = ci then (match fs[k]? with
      | some v => some (v :: r)
      | none => none) else none
    | _ => none)
  | _ => none
/-- a String's field: of a new one (class 11), or of a constant -/
def mm_getO (P : mm_P) (σ : mm_H) (k : Nat) (S : List Value) : Option (List Value) := match S with
  | .ref a :: r => if a < 1000000 then mm_getf σ 11 k (.ref a :: r) else (match P.2.1 a k with
    | some v => some (v :: r)
    | none => none)
  | _ => none
/-- a field of this type may hold this value, as it stands -/
def mm_fit (ty : FieldType) (v : Value) : Bool := match ty, v with
  | .int, .int _ => true
  | .long, .long _ => true
  | .boolean, .int x => x == 0 || x == 1
  | .byte, .int x => x == 0 || x == 1
  | .object _, .ref _ => true
  | .object _, .null => true
  | .array _, .ref _ => true
  | .array _, .null => true
  | _, _ => false
def mm_putf (P : mm_P) (σ : mm_H) (ci k : Nat) (S : List Value) : Option (mm_H × List Value) := match S with
  | v :: .ref a :: r => (match σ.1[a]? with
    | some (.inr (c, fs)) => if c = ci then (match P.2.2.2.2.2 ci k with
      | some ty => if mm_fit ty v = true ∧ k < fs.length then some (mm_set σ a (.inr (c, fs.set k v)), r) else none
      | none => none) else none
    | _ => none)
  | _ => none
/-- one cell more, of n slots -/
def mm_add (σ : mm_H) (x : mm_C) (n : Nat) : mm_H := (σ.1 ++ [x], σ.2.1, σ.2.2.1 + 1, σ.2.2.2 + n)
def mm_new (P : mm_P) (σ : mm_H) (ci : Nat) : Option (mm_H × Value) := if σ.2.1 = true ∧ σ.1.length < 1000000 then (match P.2.2.2.2.1 ci with
  | some fs => some (mm_add σ (.inr (ci, fs)) fs.length, .ref σ.1.length)
  | none => none) else none
def mm_zero (t n : Nat) : Option vp_A := match t with
  | 0 => some (n, .inl (fun _ => 0))
  | 1 => some (n, .inr (.inl (fun _ => 0)))
  | 2 => some (n, .inl (fun _ => 0))
  | 3 => some (n, .inl (fun _ => 0))
  | 4 => some (n, .inr (.inr (.inr (.inl (fun _ => 0)))))
  | 5 => some (n, .inr (.inr (.inr (.inr (fun _ => none)))))
  | _ => none
def mm_newa (σ : mm_H) (t : Nat) (S : List Value) : Option (mm_H × List Value) := match S with
  | .int n :: r => if σ.2.1 = true ∧ σ.1.length < 1000000 ∧ ¬ n < 0 ∧ n.toNatClampNeg < 1000000 then (match mm_zero t n.toNatClampNeg with
    | some x => some (mm_add σ (.inl (t, x)) n.toNatClampNeg, .ref σ.1.length :: r)
    | none => none) else none
  | _ => none
/-- these bytes are bytes -/
def mm_byt (f : Nat → Int32) (sp n : Nat) : Bool := (List.range n).all (fun i => fits .byte (.int (f (sp + i))))
def mm_copy (P : mm_P) (σ : mm_H) (S : List Value) : Option (mm_H × List Value) := match S with
  | .int n :: .int dp :: .ref b :: .int sp :: .ref a :: r => if sp < 0 ∨ dp < 0 ∨ n < 0 then none else (match σ.1[a]?, σ.1[b]? with
    | some (.inl (0, n0, .inl f)), some (.inl (0, n1, .inl g)) => if sp.toNatClampNeg + n.toNatClampNeg ≤ n0 ∧ dp.toNatClampNeg + n.toNatClampNeg ≤ n1 then some (mm_set σ b (.inl (0, n1, .inl (va_cpy f g sp.toNatClampNeg dp.toNatClampNeg n.toNatClampNeg))), r) else none
    | some (.inl (1, n0, .inr (.inl f))), some (.inl (1, n1, .inr (.inl g))) => if sp.toNatClampNeg + n.toNatClampNeg ≤ n0 ∧ dp.toNatClampNeg + n.toNatClampNeg ≤ n1 then some (mm_set σ b (.inl (1, n1, .inr (.inl (va_cpy f g sp.toNatClampNeg dp.toNatClampNeg n.toNatClampNeg)))), r) else none
    | some (.inl (2, n0, .inl f)), some (.inl (2, n1, .inl g)) => if sp.toNatClampNeg + n.toNatClampNeg ≤ n0 ∧ dp.toNatClampNeg + n.toNatClampNeg ≤ n1 ∧ mm_byt f sp.toNatClampNeg n.toNatClampNeg = true then some (mm_set σ b (.inl (2, n1, .inl (va_cpy f g sp.toNatClampNeg dp.toNatClampNeg n.toNatClampNeg))), r) else none
    | none, some (.inl (2, n1, .inl g)) => (match P.1 a with
      | some (2, n0, .inl f) => if 1000000 ≤ a ∧ sp.toNatClampNeg + n.toNatClampNeg ≤ n0 ∧ dp.toNatClampNeg + n.toNatClampNeg ≤ n1 ∧ mm_byt f sp.toNatClampNeg n.toNatClampNeg = true then some (mm_set σ b (.inl (2, n1, .inl (va_cpy f g sp.toNatClampNeg dp.toNatClampNeg n.toNatClampNeg))), r) else none
      | _ => none)
    | _, _ => none)
  | _ => none
/-- a byte array's copy (clone, cast to its own class) -/
def mm_clone (σ : mm_H) (S : List Value) : Option (mm_H × List Value) := match S with
  | .ref a :: r => (match σ.1[a]? with
    | some (.inl (2, n, .inl f)) => if σ.2.1 = true ∧ σ.1.length < 1000000 ∧ mm_byt f 0 n = true then some (mm_add σ (.inl (2, n, .inl f)) n, .ref σ.1.length :: r) else none
    | _ => none)
  | _ => none
def mm_sum (S : List Value) : Nat := (S.map fun v => v.category).sum
/-- a call's arguments and the rest of the stack; n of them (with the receiver) -/
def mm_take (n : Nat) (S : List Value) : Option (List Value × List Value) := if n ≤ S.length ∧ mm_sum (S.drop n) ≤ 24 then some ((S.take n).reverse, S.drop n) else none
/-- the receiver of an instance call: an object of class ci (ci = 100: a String constant) -/
def mm_isr (P : mm_P) (σ : mm_H) (ci : Nat) (A : List Value) : Bool := match A with
  | .ref a :: _ => if ci = 100 then (if a < 1000000 then (match σ.1[a]? with
    | some (.inr (c, _)) => c == 11
    | _ => false) else (P.2.1 a 0).isSome) else (match σ.1[a]? with
    | some (.inr (c, _)) => c == ci
    | _ => false)
  | _ => false
def mm_back (hs : List (String × Nat × Nat × Nat)) (pc : Nat) (L : mm_L) (rest : List Value) (r : mm_R) : Option mm_N := match r with
  | (.inl v, σ') => some (.inl (pc + 3, L, v.toList ++ rest, σ'))
  | (.inr E, σ') => (match hs with
    | [] => some (.inr (.inr E, σ'))
    | _ => (match hs.lookup E with
      | some (h, len, k) => if k < L.length then some (.inl (h + len, (mm_kl L k).set k none, [], σ')) else none
      | none => none))
def mm_step (P : mm_P) (call : Nat → List Value → mm_H → Option mm_R) (op : mm_Op) (pc len : Nat) (L : mm_L) (S : List Value) (σ : mm_H) : Option mm_N := match op with
  | (0, _, _, _, _, i, _) => (match mm_alu i S with
    | some r => some (.inl (pc + len, L, r, σ))
    | none => none)
  | (1, _, _, _, _, i, _) => (match mm_br pc len i S with
    | some (t, r) => some (.inl (t, L, r, σ))
    | none => none)
  | (2, _, _, _, _, i, _) => (match mm_loc i L S with
    | some (L', r) => some (.inl (pc + len, L', r, σ))
    | none => none)
  | (3, _, _, _, _, i, _) => (match mm_ard P.1 i σ S with
    | some r => some (.inl (pc + len, L, r, σ))
    | none => none)
  | (4, a, _, _, _, i, _) => (match mm_ret a i S with
    | some o => some (.inr (.inl o, σ))
    | none => none)
  | (5, a, _, _, _, _, _) => (match P.2.2.1 a with
    | some v => some (.inl (pc + len, L, v :: S, σ))
    | none => none)
  | (6, a, _, _, _, _, _) => some (.inl (pc + len, L, .ref (2000000 + a) :: S, σ))
  | (7, a, b, _, _, _, _) => (match mm_getf σ a b S with
    | some r => some (.inl (pc + len, L, r, σ))
    | none => none)
  | (8, a, b, _, _, _, _) => (match mm_putf P σ a b S with
    | some (σ', r) => some (.inl (pc + len, L, r, σ'))
    | none => none)
  | (9, a, _, _, _, _, _) => (match P.2.2.2.1 a with
    | some v => some (.inl (pc + len, L, v :: S, σ))
    | none => none)
  | (10, a, _, _, _, _, _) => (match mm_getO P σ a S with
    | some r => some (.inl (pc + len, L, r, σ))
    | none => none)
  | (11, a, _, _, _, _, _) => (match mm_new P σ a with
    | some (σ', v) => some (.inl (pc + len, L, v :: S, σ'))
    | none => none)
  | (12, a, _, _, _, _, _) => (match mm_newa σ a S with
    | some (σ', r) => some (.inl (pc + len, L, r, σ'))
    | none => none)
  | (13, _, _, _, _, i, _) => (match mm_awr i σ S with
    | some (σ', r) => some (.inl (pc + len, L, r, σ'))
    | none => none)
  | (14, _, _, _, _, _, _) => (match S with
    | .ref _ :: r => if mm_sum r ≤ 24 then some (.inl (pc + len, L, r, σ)) else none
    | _ => none)
  | (15, a, b, c, d, _, hs) => (match mm_take b S with
    | some (A, r) => if d = 1 ∨ mm_isr P σ c A = true then (match call a A σ with
      | some res => mm_back hs pc L r res
      | none => none) else none
    | none => none)
  | (16, _, _, _, _, _, hs) => (match hs with
    | (E, _) :: _ => if mm_sum S ≤ 24 then some (.inr (.inr E, (σ.1, false, σ.2.2.1 + 1, σ.2.2.2 + 6))) else none
    | _ => none)
  | (17, _, _, _, _, _, _) => (match mm_copy P σ S with
    | some (σ', r) => if mm_sum r ≤ 24 then some (.inl (pc + len, L, r, σ')) else none
    | none => none)
  | (18, _, _, _, _, _, _) => (match S with
    | .int y :: .int x :: r => if mm_sum r ≤ 24 then some (.inl (pc + len, L, .int (if x < y then y else x) :: r, σ)) else none
    | _ => none)
  | (19, _, _, _, _, _, _) => (match S with
    | .int y :: .int x :: r => if mm_sum r ≤ 24 then some (.inl (pc + len, L, .int (if y < x then y else x) :: r, σ)) else none
    | _ => none)
  | (20, _, _, _, _, _, _) => (match mm_clone σ S with
    | some (σ', r) => if mm_sum r ≤ 24 then some (.inl (pc + len, L, r, σ')) else none
    | none => none)
  | _ => none
def mm_go (P : mm_P) (call : Nat → List Value → mm_H → Option mm_R) (code : mm_Code) : Nat → Nat → mm_L → List Value → mm_H → Option mm_R
  | 0, _, _, _, _ => none
  | n + 1, pc, L, S, σ => match code.lookup pc with
    | some (len, op) => (match mm_step P call op pc len L S σ with
      | some (.inl (pc', L', S', σ')) => mm_go P call code n pc' L' S' σ'
      | some (.inr r) => some r
      | none => none)
    | none => none
def mm_args : List Value → mm_L
  | [] => []
  | v :: r => if v.category = 2 then some v :: none :: mm_args r else some v :: mm_args r
def mm_entry (A : List Value) (nL : Nat) : mm_L := mm_args A ++ List.replicate (nL - (mm_args A).length) none
/-- method y over its arguments, at depth d, N steps a method -/
def mm_run (P : mm_P) (M : Nat → Option (mm_Code × Nat)) (N : Nat) : Nat → Nat → List Value → mm_H → Option mm_R
  | 0, _, _, _ => none
  | d + 1, y, A, σ => match M y with
    | some (code, nL) => if (mm_args A).length ≤ nL then mm_go P (mm_run P M N d) code N 0 (mm_entry A nL) [] σ else none
    | none => none
end
section
/-! a mini value, as the machine has it: rho gives a place's address; opq what is not looked at -/
def mm_v (rho : Nat → Nat) (opq : Nat → Value) (v : Value) : Value := match v with
  | .ref k => .ref (rho k)
  | .retAddr k => opq k
  | w => w
def mm_opq (opq : Nat → Value) : Prop := ∀ k, opq k = .null ∨ ∃ a, opq k = .ref a
theorem mm_v_cat {rho : Nat → Nat} {opq : Nat → Value} (ho : mm_opq opq) (v : Value) : (mm_v rho opq v).category = v.category := by
  cases v <;> try rfl
  case retAddr k =>
    rcases ho k with h | ⟨a, h⟩ <;> (show (opq k).category = 1) <;> rw [h] <;> rfl
/-- an instruction's length, as the rows have it -/
def mm_len (i : Instr) : Nat := match i with
  | .bipush _ => 2
  | .sipush _ => 3
  | .ifCond _ _ => 3
  | .if_icmp _ _ => 3
  | .ifnull _ => 3
  | .ifnonnull _ => 3
  | .goto _ => 3
  | .iload _ => 2
  | .lload _ => 2
  | .dload _ => 2
  | .aload _ => 2
  | .istore _ => 2
  | .lstore _ => 2
  | .dstore _ => 2
  | .astore _ => 2
  | .iinc _ _ => 3
  | .newarray _ => 2
  | .anewarray _ => 3
  | _ => 1
theorem mm_ii_inv {f : Int32 → Int32 → Int32} {S S' : List Value} (h : mm_ii f S = some S') : ∃ x y r, S = .int y :: .int x :: r ∧ S' = .int (f x y) :: r := by
  unfold mm_ii at h
  split at h
  · exact ⟨_, _, _, rfl, (Option.some.inj h).symm⟩
  · cases h
theorem mm_iz_inv {f : Int32 → Int32 → Int32} {S S' : List Value} (h : mm_iz f S = some S') : ∃ x y r, S = .int y :: .int x :: r ∧ ¬ y = 0 ∧ S' = .int (f x y) :: r := by
  unfold mm_iz at h
  split at h
  · split at h
    · cases h
    · rename_i h0
      exact ⟨_, _, _, rfl, h0, (Option.some.inj h).symm⟩
  · cases h
theorem mm_jj_inv {f : Int64 → Int64 → Int64} {S S' : List Value} (h : mm_jj f S = some S') : ∃ x y r, S = .long y :: .long x :: r ∧ S' = .long (f x y) :: r := by
  unfold mm_jj at h
  split at h
  · exact ⟨_, _, _, rfl, (Option.some.inj h).symm⟩
  · cases h
theorem mm_ji_inv {f : Int64 → Int32 → Int64} {S S' : List Value} (h : mm_ji f S = some S') : ∃ x y r, S = .int y :: .long x :: r ∧ S' = .long (f x y) :: r := by
  unfold mm_ji at h
  split at h
  · exact ⟨_, _, _, rfl, (Option.some.inj h).symm⟩
  · cases h
theorem mm_dd_inv {f : UInt64 → UInt64 → UInt64} {S S' : List Value} (h : mm_dd f S = some S') : ∃ x y r, S = .double y :: .double x :: r ∧ vf_n64 (f x y) ∧ S' = .double (f x y) :: r := by
  unfold mm_dd at h
  split at h
  · split at h
    · rename_i h0
      exact ⟨_, _, _, rfl, h0, (Option.some.inj h).symm⟩
    · cases h
  · cases h
theorem mm_i_inv {f : Int32 → Value} {S S' : List Value} (h : mm_i f S = some S') : ∃ x r, S = .int x :: r ∧ S' = f x :: r := by
  unfold mm_i at h
  split at h
  · exact ⟨_, _, rfl, (Option.some.inj h).symm⟩
  · cases h
theorem mm_j_inv {f : Int64 → Value} {S S' : List Value} (h : mm_j f S = some S') : ∃ x r, S = .long x :: r ∧ S' = f x :: r := by
  unfold mm_j at h
  split at h
  · exact ⟨_, _, rfl, (Option.some.inj h).symm⟩
  · cases h
section MMA
variable {p : Program} {l : Launch} {e : Env} {R : Room} {s : State} {m : MethodId} {args : Array Value} {below : List Frame} {meth : Method} {c : Code} {H : Heap} {locs : List Loc} {cells slots : Nat} {Q : State → Prop}
variable {cc : ByteArray} {pc len : Nat} {ls : Array Slot} {rho : Nat → Nat} {opq : Nat → Value}
theorem mm_alu_sim (hx : p.tables.exec = Jvm.exec) (hb : c.code = cc) (ho : mm_opq opq) {i : Instr} {S S' : List Value} (h : mm_alu i S = some S') (hd : decode cc pc = .ok (i, len)) (hl : len = mm_len i)
    (k : W p l e R s m args below meth c H locs cells slots Q (F0 m (pc + len) ls (S'.map (mm_v rho opq)))) : W p l e R s m args below meth c H locs cells slots Q (F0 m pc ls (S.map (mm_v rho opq))) := by
  subst hl
  cases i <;> simp only [mm_alu, reduceCtorEq] at h
  case iconst n => cases h; exact lv_iconst hx hb hd rfl k
  case bipush n => cases h; exact lv_bipush hx hb hd rfl k
  case sipush n => cases h; exact lv_sipush hx hb hd rfl k
  case lconst n => cases h; exact lv_lconst hx hb hd rfl k
  case aconst_null => cases h; exact lv_null hx hb hd k
  case dconst n =>
    split at h
    · rename_i h0
      cases h
      have e0 : n = 0 := Fin.ext h0
      subst e0
      exact lv_dconst0 hx hb hd k
    · split at h
      · rename_i h0
        cases h
        have e0 : n = 1 := Fin.ext h0
        subst e0
        exact lv_dconst1 hx hb hd k
      · cases h
  case iadd => obtain ⟨x, y, r, rfl, rfl⟩ := mm_ii_inv h; exact lv_iadd hx hb hd k
  case isub => obtain ⟨x, y, r, rfl, rfl⟩ := mm_ii_inv h; exact lv_isub hx hb hd k
  case imul => obtain ⟨x, y, r, rfl, rfl⟩ := mm_ii_inv h; exact lv_imul hx hb hd k
  case iand => obtain ⟨x, y, r, rfl, rfl⟩ := mm_ii_inv h; exact lv_iand hx hb hd k
  case ior => obtain ⟨x, y, r, rfl, rfl⟩ := mm_ii_inv h; exact lv_ior hx hb hd k
  case ixor => obtain ⟨x, y, r, rfl, rfl⟩ := mm_ii_inv h; exact lv_ixor hx hb hd k
  case ishl => obtain ⟨x, y, r, rfl, rfl⟩ := mm_ii_inv h; exact lv_ishl hx hb hd k
  case ishr => obtain ⟨x, y, r, rfl, rfl⟩ := mm_ii_inv h; exact lv_ishr hx hb hd k
  case iushr => obtain ⟨x, y, r, rfl, rfl⟩ := mm_ii_inv h; exact lv_iushr hx hb hd rfl k
  case idiv => obtain ⟨x, y, r, rfl, h0, rfl⟩ := mm_iz_inv h; exact lv_idiv hx hb hd h0 k
  case irem => obtain ⟨x, y, r, rfl, h0, rfl⟩ := mm_iz_inv h; exact lv_irem hx hb hd h0 k
  case ineg => obtain ⟨x, r, rfl, rfl⟩ := mm_i_inv h; exact lv_ineg hx hb hd k
  case ladd => obtain ⟨x, y, r, rfl, rfl⟩ := mm_jj_inv h; exact lv_ladd hx hb hd k
  case lsub => obtain ⟨x, y, r, rfl, rfl⟩ := mm_jj_inv h; exact lv_lsub hx hb hd k
  case lmul => obtain ⟨x, y, r, rfl, rfl⟩ := mm_jj_inv h; exact lv_lmul hx hb hd k
  case land => obtain ⟨x, y, r, rfl, rfl⟩ := mm_jj_inv h; exact lv_land hx hb hd k
  case lor => obtain ⟨x, y, r, rfl, rfl⟩ := mm_jj_inv h; exact lv_lor hx hb hd k
  case lxor => obtain ⟨x, y, r, rfl, rfl⟩ := mm_jj_inv h; exact lv_lxor hx hb hd k
  case lneg => obtain ⟨x, r, rfl, rfl⟩ := mm_j_inv h; exact lv_lneg hx hb hd k
  case lshl => obtain ⟨x, y, r, rfl, rfl⟩ := mm_ji_inv h; exact lv_lshl hx hb hd rfl k
  case lshr => obtain ⟨x, y, r, rfl, rfl⟩ := mm_ji_inv h; exact lv_lshr hx hb hd rfl k
  case lushr => obtain ⟨x, y, r, rfl, rfl⟩ := mm_ji_inv h; exact lv_lushr hx hb hd rfl k
  case lcmp =>
    split at h
    · cases h; exact W.lcmp hx hb hd k
    · cases h
  case i2l => obtain ⟨x, r, rfl, rfl⟩ := mm_i_inv h; exact lv_i2l hx hb hd rfl k
  case l2i => obtain ⟨x, r, rfl, rfl⟩ := mm_j_inv h; exact lv_l2i hx hb hd rfl k
  case i2b => obtain ⟨x, r, rfl, rfl⟩ := mm_i_inv h; exact lv_i2b hx hb hd rfl k
  case i2c => obtain ⟨x, r, rfl, rfl⟩ := mm_i_inv h; exact lv_i2c hx hb hd rfl k
  case i2d => obtain ⟨x, r, rfl, rfl⟩ := mm_i_inv h; exact lv_i2d hx hb hd k
  case dadd => obtain ⟨x, y, r, rfl, h0, rfl⟩ := mm_dd_inv h; exact lv_dadd hx hb hd h0 k
  case dsub => obtain ⟨x, y, r, rfl, h0, rfl⟩ := mm_dd_inv h; exact lv_dsub hx hb hd h0 k
  case dmul => obtain ⟨x, y, r, rfl, h0, rfl⟩ := mm_dd_inv h; exact lv_dmul hx hb hd h0 k
  case ddiv => obtain ⟨x, y, r, rfl, h0, rfl⟩ := mm_dd_inv h; exact lv_ddiv hx hb hd h0 k
  case dcmp op =>
    split at h
    · cases h; exact lv_dcmp hx hb hd k
    · cases h
  case dup =>
    split at h
    · split at h
      · rename_i h0
        cases h
        exact lv_dup hx hb hd ((mm_v_cat ho _).trans h0) k
      · cases h
    · cases h
  case pop =>
    split at h
    · split at h
      · rename_i h0
        cases h
        exact lv_pop hx hb hd ((mm_v_cat ho _).trans h0) k
      · cases h
    · cases h
  case dup_x1 =>
    split at h
    · split at h
      · rename_i h0
        cases h
        exact lv_dup_x1 hx hb hd ((mm_v_cat ho _).trans h0.1) ((mm_v_cat ho _).trans h0.2) k
      · cases h
    · cases h
  case dup2 =>
    split at h
    · split at h
      · rename_i h0
        cases h
        exact lv_dup2_2 hx hb hd ((mm_v_cat ho _).trans h0) k
      · split at h
        · split at h
          · rename_i h0
            cases h
            exact lv_dup2_11 hx hb hd ((mm_v_cat ho _).trans h0.1) ((mm_v_cat ho _).trans h0.2) k
          · cases h
        · cases h
    · cases h
theorem mm_to_int {off : Int} {t : Nat} (h : mm_to pc off = some t) : (pc : Int) + off = (t : Int) := by
  simp only [mm_to] at h
  split at h
  · rename_i t' e2
    cases h
    exact e2
  · cases h
theorem mm_ifc (hx : p.tables.exec = Jvm.exec) (hb : c.code = cc) {x : Int32} {cnd : ClassFile.Cond} {off : Int} {tgt : Nat} {rest : List Value} (hd : decode cc pc = .ok (.ifCond cnd off, 3)) (ht : (pc : Int) + off = (tgt : Int))
    (kt : mm_c0 cnd x 0 → W p l e R s m args below meth c H locs cells slots Q (F0 m tgt ls rest)) (kf : ¬ mm_c0 cnd x 0 → W p l e R s m args below meth c H locs cells slots Q (F0 m (pc + 3) ls rest)) : W p l e R s m args below meth c H locs cells slots Q (F0 m pc ls (.int x :: rest)) := by
  cases cnd
  · exact lv_if_eq hx hb hd ht kt kf
  · exact lv_if_ne hx hb hd ht kt (fun q => kf (fun z => z q))
  · exact lv_if_lt hx hb hd ht kt kf
  · exact lv_if_ge hx hb hd ht kt kf
  · exact lv_if_gt hx hb hd ht kt kf
  · exact lv_if_le hx hb hd ht kt kf
theorem mm_icmp (hx : p.tables.exec = Jvm.exec) (hb : c.code = cc) {x y : Int32} {cnd : ClassFile.Cond} {off : Int} {tgt : Nat} {rest : List Value} (hd : decode cc pc = .ok (.if_icmp cnd off, 3)) (ht : (pc : Int) + off = (tgt : Int))
    (kt : mm_c0 cnd x y → W p l e R s m args below meth c H locs cells slots Q (F0 m tgt ls rest)) (kf : ¬ mm_c0 cnd x y → W p l e R s m args below meth c H locs cells slots Q (F0 m (pc + 3) ls rest)) : W p l e R s m args below meth c H locs cells slots Q (F0 m pc ls (.int y :: .int x :: rest)) := by
  cases cnd
  · exact lv_icmp_eq hx hb hd ht kt kf
  · exact lv_icmp_ne hx hb hd ht kt (fun q => kf (fun z => z q))
  · exact lv_icmp_lt hx hb hd ht kt kf
  · exact lv_icmp_ge hx hb hd ht kt kf
  · exact lv_icmp_gt hx hb hd ht kt kf
  · exact lv_icmp_le hx hb hd ht kt kf
def mm_isSw (i : Instr) : Bool := match i with
  | .tableswitch _ _ _ _ => true
  | _ => false
theorem mm_br_sim (hx : p.tables.exec = Jvm.exec) (hb : c.code = cc) {i : Instr} {S r : List Value} {t : Nat} (h : mm_br pc len i S = some (t, r)) (hd : decode cc pc = .ok (i, len)) (hl : len = mm_len i ∨ mm_isSw i = true)
    (k : W p l e R s m args below meth c H locs cells slots Q (F0 m t ls (r.map (mm_v rho opq)))) : W p l e R s m args below meth c H locs cells slots Q (F0 m pc ls (S.map (mm_v rho opq))) := by
  cases i <;> simp only [mm_br, reduceCtorEq] at h
  case goto off =>
    have hl2 : len = 3 := hl.elim id (fun z => nomatch z)
    subst hl2
    split at h
    · rename_i t' e
      cases h
      exact lv_goto hx hb hd (mm_to_int e) k
    · cases h
  case ifCond cnd off =>
    have hl2 : len = 3 := hl.elim id (fun z => nomatch z)
    subst hl2
    split at h
    · rename_i t' e
      split at h
      · rename_i x r'
        by_cases hc : mm_c0 cnd x 0
        · rw [if_pos hc] at h
          cases h
          exact mm_ifc hx hb hd (mm_to_int e) (fun _ => k) (fun z => absurd hc z)
        · rw [if_neg hc] at h
          cases h
          exact mm_ifc hx hb hd (mm_to_int e) (fun z => absurd z hc) (fun _ => k)
      · cases h
    · cases h
  case if_icmp cnd off =>
    have hl2 : len = 3 := hl.elim id (fun z => nomatch z)
    subst hl2
    split at h
    · rename_i t' e
      split at h
      · rename_i y x r'
        by_cases hc : mm_c0 cnd x y
        · rw [if_pos hc] at h
          cases h
          exact mm_icmp hx hb hd (mm_to_int e) (fun _ => k) (fun z => absurd hc z)
        · rw [if_neg hc] at h
          cases h
          exact mm_icmp hx hb hd (mm_to_int e) (fun z => absurd z hc) (fun _ => k)
      · cases h
    · cases h
  case ifnull off =>
    have hl2 : len = 3 := hl.elim id (fun z => nomatch z)
    subst hl2
    split at h
    · rename_i t' e
      split at h
      · cases h
        exact lv_ifnullN hx hb hd (mm_to_int e) k
      · cases h
        exact lv_ifnull hx hb hd k
      · cases h
    · cases h
  case ifnonnull off =>
    have hl2 : len = 3 := hl.elim id (fun z => nomatch z)
    subst hl2
    split at h
    · rename_i t' e
      split at h
      · cases h
        exact lv_ifnonnullN hx hb hd k
      · cases h
        exact lv_ifnonnull hx hb hd (mm_to_int e) k
      · cases h
    · cases h
  case tableswitch d lo hi offs =>
    split at h
    · rename_i x r'
      split at h
      · rename_i hc
        split at h
        · rename_i t' e
          cases h
          exact lv_tableOut hx hb hd hc (mm_to_int e) k
        · cases h
      · rename_i hc
        split at h
        · rename_i off e1
          split at h
          · rename_i t' e
            cases h
            exact lv_tableIn hx hb hd (fun z => hc (Or.inl z)) (fun z => hc (Or.inr z)) e1 (mm_to_int e) k
          · cases h
        · cases h
    · cases h
end MMA
end
section
/-- the locals, as the machine has them -/
def mm_lh (rho : Nat → Nat) (opq : Nat → Value) (ls : Array Slot) (nL : Nat) (L : mm_L) : Prop := ls.size = nL ∧ lv_wf ls ∧ L.length = nL ∧ ∀ (i : Nat) (v : Value), L[i]? = some (some v) → ls[i]? = some (.val (mm_v rho opq v))
def mm_prs (rho : Nat → Nat) (opq : Nat → Value) (L : mm_L) : List (Nat × Value) := L.zipIdx.filterMap (fun q => q.1.map (fun v => (q.2, mm_v rho opq v)))
theorem mm_prs_mem {rho : Nat → Nat} {opq : Nat → Value} {L : mm_L} {i : Nat} {v : Value} (h : L[i]? = some (some v)) : (i, mm_v rho opq v) ∈ mm_prs rho opq L := by
  refine List.mem_filterMap.mpr ⟨(some v, i), ?_, rfl⟩
  exact List.mem_zipIdx_iff_getElem?.mpr h
theorem mm_prs_of {rho : Nat → Nat} {opq : Nat → Value} {L : mm_L} {q : Nat × Value} (h : q ∈ mm_prs rho opq L) : ∃ v, L[q.1]? = some (some v) ∧ q.2 = mm_v rho opq v := by
  obtain ⟨⟨o, i⟩, h1, h2⟩ := List.mem_filterMap.mp h
  have h3 : L[i]? = some o := List.mem_zipIdx_iff_getElem?.mp h1
  cases o with
  | none => cases h2
  | some v =>
    cases h2
    exact ⟨v, h3, rfl⟩
theorem mm_lh_has {rho : Nat → Nat} {opq : Nat → Value} {ls : Array Slot} {nL : Nat} {L : mm_L} (h : mm_lh rho opq ls nL L) : lv_has ls nL (mm_prs rho opq L) := by
  refine ⟨h.1, h.2.1, fun q hq => ?_⟩
  obtain ⟨v, h1, h2⟩ := mm_prs_of hq
  rw [h2]
  exact h.2.2.2 _ _ h1
theorem mm_kl_len (L : mm_L) (k : Nat) : (mm_kl L k).length = L.length := by
  cases k with
  | zero => rfl
  | succ j =>
    simp only [mm_kl]
    split
    · split <;> simp
    · rfl
theorem mm_kl_get {L : mm_L} {k j : Nat} {w : Value} (h : (mm_kl L k)[j]? = some (some w)) : L[j]? = some (some w) ∧ ¬ (j + 1 = k ∧ w.category = 2) := by
  cases k with
  | zero => exact ⟨h, fun z => absurd z.1 (Nat.succ_ne_zero j)⟩
  | succ i =>
    simp only [mm_kl] at h
    split at h
    · rename_i v hv
      split at h
      · rename_i hc
        rw [List.getElem?_set] at h
        split at h
        · split at h <;> cases h
        · rename_i hn
          exact ⟨h, fun z => hn (Nat.succ.inj z.1).symm⟩
      · rename_i hc
        refine ⟨h, fun z => ?_⟩
        have e : j = i := Nat.succ.inj z.1
        subst e
        rw [hv] at h
        cases h
        exact hc z.2
    · rename_i hv
      refine ⟨h, fun z => ?_⟩
      have e : j = i := Nat.succ.inj z.1
      subst e
      exact hv w h
theorem mm_st1_len {L L' : mm_L} {k : Nat} {v : Value} (h : mm_st1 L k v = some L') : k < L.length ∧ L' = (mm_kl L k).set k (some v) := by
  unfold mm_st1 at h
  split at h
  · rename_i h0
    exact ⟨h0, (Option.some.inj h).symm⟩
  · cases h
theorem mm_st2_len {L L' : mm_L} {k : Nat} {v : Value} (h : mm_st2 L k v = some L') : k + 1 < L.length ∧ L' = ((mm_kl L k).set k (some v)).set (k + 1) none := by
  unfold mm_st2 at h
  split at h
  · rename_i h0
    exact ⟨h0, (Option.some.inj h).symm⟩
  · cases h
theorem mm_st1_lh {rho : Nat → Nat} {opq : Nat → Value} (ho : mm_opq opq) {ls' : Array Slot} {nL k : Nat} {L L' : mm_L} {v : Value} (hL : L.length = nL) (h : mm_st1 L k v = some L')
    (h' : lv_has ls' nL ((k, mm_v rho opq v) :: (mm_prs rho opq L).filter (fun q => !(q.1 == k) && !(q.1 + 1 == k && q.2.category == 2)))) : mm_lh rho opq ls' nL L' := by
  obtain ⟨hk, rfl⟩ := mm_st1_len h
  refine ⟨h'.1, h'.2.1, by rw [List.length_set, mm_kl_len]; exact hL, fun j w hj => ?_⟩
  rw [List.getElem?_set] at hj
  split at hj
  · rename_i e
    subst e
    rw [if_pos (by rw [mm_kl_len]; exact hk)] at hj
    cases hj
    exact h'.2.2 _ List.mem_cons_self
  · rename_i hn
    obtain ⟨h1, h2⟩ := mm_kl_get hj
    refine h'.2.2 (j, mm_v rho opq w) (List.mem_cons_of_mem _ (List.mem_filter.mpr ⟨mm_prs_mem h1, ?_⟩))
    have n1 : (j == k) = false := by simpa using fun q : j = k => hn q.symm
    have n2 : (j + 1 == k && (mm_v rho opq w).category == 2) = false := by
      rw [mm_v_cat ho]
      cases hb : (j + 1 == k && w.category == 2) with
      | false => rfl
      | true =>
        simp only [Bool.and_eq_true, beq_iff_eq] at hb
        exact absurd hb h2
    show (!(j == k) && !(j + 1 == k && (mm_v rho opq w).category == 2)) = true
    rw [n1, n2]
    rfl
theorem mm_st2_lh {rho : Nat → Nat} {opq : Nat → Value} (ho : mm_opq opq) {ls' : Array Slot} {nL k : Nat} {L L' : mm_L} {v : Value} (hL : L.length = nL) (h : mm_st2 L k v = some L')
    (h' : lv_has ls' nL ((k, mm_v rho opq v) :: (mm_prs rho opq L).filter (fun q => !(q.1 == k) && (!(q.1 == k + 1) && !(q.1 + 1 == k && q.2.category == 2))))) : mm_lh rho opq ls' nL L' := by
  obtain ⟨hk, rfl⟩ := mm_st2_len h
  refine ⟨h'.1, h'.2.1, by rw [List.length_set, List.length_set, mm_kl_len]; exact hL, fun j w hj => ?_⟩
  rw [List.getElem?_set] at hj
  split at hj
  · split at hj <;> cases hj
  · rename_i hn0
    rw [List.getElem?_set] at hj
    split at hj
    · rename_i e
      subst e
      rw [if_pos (by rw [mm_kl_len]; omega)] at hj
      cases hj
      exact h'.2.2 _ List.mem_cons_self
    · rename_i hn
      obtain ⟨h1, h2⟩ := mm_kl_get hj
      refine h'.2.2 (j, mm_v rho opq w) (List.mem_cons_of_mem _ (List.mem_filter.mpr ⟨mm_prs_mem h1, ?_⟩))
      have n1 : (j == k) = false := by simpa using fun q : j = k => hn q.symm
      have n0 : (j == k + 1) = false := by simpa using fun q : j = k + 1 => hn0 q.symm
      have n2 : (j + 1 == k && (mm_v rho opq w).category == 2) = false := by
        rw [mm_v_cat ho]
        cases hb : (j + 1 == k && w.category == 2) with
        | false => rfl
        | true =>
          simp only [Bool.and_eq_true, beq_iff_eq] at hb
          exact absurd hb h2
      show (!(j == k) && (!(j == k + 1) && !(j + 1 == k && (mm_v rho opq w).category == 2))) = true
      rw [n1, n0, n2]
      rfl
theorem mm_map_inv {α β : Type} {o : Option α} {f : α → β} {b : β} (h : o.map f = some b) : ∃ a, o = some a ∧ b = f a := by
  cases o with
  | none => cases h
  | some a => exact ⟨a, rfl, (Option.some.inj h).symm⟩
section MML
variable {p : Program} {l : Launch} {e : Env} {R : Room} {s : State} {m : MethodId} {args : Array Value} {below : List Frame} {meth : Method} {c : Code} {H : Heap} {locs : List Loc} {cells slots : Nat} {Q : State → Prop}
variable {cc : ByteArray} {pc len : Nat} {ls : Array Slot} {rho : Nat → Nat} {opq : Nat → Value}
theorem mm_loc_sim (hx : p.tables.exec = Jvm.exec) (hb : c.code = cc) (ho : mm_opq opq) {i : Instr} {nL : Nat} {L L' : mm_L} {S S' : List Value} (hl : mm_lh rho opq ls nL L) (h : mm_loc i L S = some (L', S')) (hd : decode cc pc = .ok (i, len)) (hn : len = mm_len i)
    (k : ∀ ls' : Array Slot, mm_lh rho opq ls' nL L' → W p l e R s m args below meth c H locs cells slots Q (F0 m (pc + len) ls' (S'.map (mm_v rho opq)))) : W p l e R s m args below meth c H locs cells slots Q (F0 m pc ls (S.map (mm_v rho opq))) := by
  subst hn
  have hH := mm_lh_has hl
  cases i <;> simp only [mm_loc, mm_ldi, mm_ldj, mm_ldd, mm_lda, mm_sti, mm_stj, mm_std, mm_sta, mm_inc, reduceCtorEq] at h
  case iload j =>
    split at h
    · rename_i x hx1
      cases h
      exact lv_iload hx hb hd (hl.2.2.2 _ _ hx1) (k ls hl)
    · cases h
  case iload_n j =>
    split at h
    · rename_i x hx1
      cases h
      exact lv_iload_n hx hb hd rfl (hl.2.2.2 _ _ hx1) (k ls hl)
    · cases h
  case lload j =>
    split at h
    · rename_i x hx1
      cases h
      exact lv_lload hx hb hd (hl.2.2.2 _ _ hx1) (k ls hl)
    · cases h
  case lload_n j =>
    split at h
    · rename_i x hx1
      cases h
      exact lv_lload_n hx hb hd rfl (hl.2.2.2 _ _ hx1) (k ls hl)
    · cases h
  case dload j =>
    split at h
    · rename_i x hx1
      cases h
      exact lv_dload hx hb hd (hl.2.2.2 _ _ hx1) (k ls hl)
    · cases h
  case dload_n j =>
    split at h
    · rename_i x hx1
      cases h
      exact lv_dload_n hx hb hd rfl (hl.2.2.2 _ _ hx1) (k ls hl)
    · cases h
  case aload j =>
    split at h
    · rename_i x hx1
      cases h
      exact lv_aload hx hb hd (hl.2.2.2 _ _ hx1) (k ls hl)
    · rename_i hx1
      cases h
      exact lv_aloadN hx hb hd (hl.2.2.2 _ _ hx1) (k ls hl)
    · rename_i x hx1
      cases h
      have h9 := hl.2.2.2 _ _ hx1
      have k9 := k ls hl
      rcases ho x with e9 | ⟨a, e9⟩
      · simp only [List.map_cons, mm_v, e9] at h9 k9
        exact lv_aloadN hx hb hd h9 k9
      · simp only [List.map_cons, mm_v, e9] at h9 k9
        exact lv_aload hx hb hd h9 k9
    · cases h
  case aload_n j =>
    split at h
    · rename_i x hx1
      cases h
      exact lv_aload_n hx hb hd rfl (hl.2.2.2 _ _ hx1) (k ls hl)
    · rename_i hx1
      cases h
      exact lv_aload_nN hx hb hd rfl (hl.2.2.2 _ _ hx1) (k ls hl)
    · rename_i x hx1
      cases h
      have h9 := hl.2.2.2 _ _ hx1
      have k9 := k ls hl
      rcases ho x with e9 | ⟨a, e9⟩
      · simp only [List.map_cons, mm_v, e9] at h9 k9
        exact lv_aload_nN hx hb hd rfl h9 k9
      · simp only [List.map_cons, mm_v, e9] at h9 k9
        exact lv_aload_n hx hb hd rfl h9 k9
    · cases h
  case istore j =>
    split at h
    · obtain ⟨L2, h1, h2⟩ := mm_map_inv h
      cases h2
      exact lv_istore hx hb hd hH (hl.2.2.1 ▸ (mm_st1_len h1).1) rfl (fun ls' h' => k ls' (mm_st1_lh ho hl.2.2.1 h1 h'))
    · cases h
  case istore_n j =>
    split at h
    · obtain ⟨L2, h1, h2⟩ := mm_map_inv h
      cases h2
      exact lv_istore_n hx hb hd rfl hH (hl.2.2.1 ▸ (mm_st1_len h1).1) rfl (fun ls' h' => k ls' (mm_st1_lh ho hl.2.2.1 h1 h'))
    · cases h
  case lstore j =>
    split at h
    · obtain ⟨L2, h1, h2⟩ := mm_map_inv h
      cases h2
      exact lv_lstore hx hb hd hH (hl.2.2.1 ▸ (mm_st2_len h1).1) rfl (fun ls' h' => k ls' (mm_st2_lh ho hl.2.2.1 h1 h'))
    · cases h
  case lstore_n j =>
    split at h
    · obtain ⟨L2, h1, h2⟩ := mm_map_inv h
      cases h2
      exact lv_lstore_n hx hb hd rfl hH (hl.2.2.1 ▸ (mm_st2_len h1).1) rfl (fun ls' h' => k ls' (mm_st2_lh ho hl.2.2.1 h1 h'))
    · cases h
  case dstore j =>
    split at h
    · obtain ⟨L2, h1, h2⟩ := mm_map_inv h
      cases h2
      exact lv_dstore hx hb hd hH (hl.2.2.1 ▸ (mm_st2_len h1).1) rfl (fun ls' h' => k ls' (mm_st2_lh ho hl.2.2.1 h1 h'))
    · cases h
  case dstore_n j =>
    split at h
    · obtain ⟨L2, h1, h2⟩ := mm_map_inv h
      cases h2
      exact lv_dstore_n hx hb hd rfl hH (hl.2.2.1 ▸ (mm_st2_len h1).1) rfl (fun ls' h' => k ls' (mm_st2_lh ho hl.2.2.1 h1 h'))
    · cases h
  case astore j =>
    split at h
    · obtain ⟨L2, h1, h2⟩ := mm_map_inv h
      cases h2
      exact lv_astore hx hb hd hH (hl.2.2.1 ▸ (mm_st1_len h1).1) rfl (fun ls' h' => k ls' (mm_st1_lh ho hl.2.2.1 h1 h'))
    · obtain ⟨L2, h1, h2⟩ := mm_map_inv h
      cases h2
      exact lv_astoreN hx hb hd hH (hl.2.2.1 ▸ (mm_st1_len h1).1) rfl (fun ls' h' => k ls' (mm_st1_lh ho hl.2.2.1 h1 h'))
    · cases h
  case astore_n j =>
    split at h
    · obtain ⟨L2, h1, h2⟩ := mm_map_inv h
      cases h2
      exact lv_astore_n hx hb hd rfl hH (hl.2.2.1 ▸ (mm_st1_len h1).1) rfl (fun ls' h' => k ls' (mm_st1_lh ho hl.2.2.1 h1 h'))
    · obtain ⟨L2, h1, h2⟩ := mm_map_inv h
      cases h2
      exact lv_astore_nN hx hb hd rfl hH (hl.2.2.1 ▸ (mm_st1_len h1).1) rfl (fun ls' h' => k ls' (mm_st1_lh ho hl.2.2.1 h1 h'))
    · cases h
  case iinc j n =>
    split at h
    · rename_i x hx1
      obtain ⟨L2, h1, h2⟩ := mm_map_inv h
      cases h2
      obtain ⟨q, hq⟩ := List.getElem?_of_mem (mm_prs_mem (rho := rho) (opq := opq) hx1)
      exact lv_iinc hx hb hd hH hq rfl (hl.2.2.1 ▸ (mm_st1_len h1).1) rfl (fun ls' h' => k ls' (mm_st1_lh ho hl.2.2.1 h1 h'))
    · cases h
end MML
end
section
/-- an array's contents, its references by address -/
def mm_a (rho : Nat → Nat) (x : vp_A) : vp_A := match x with
  | (n, .inr (.inr (.inr (.inr f)))) => (n, .inr (.inr (.inr (.inr (fun j => (f j).map rho)))))
  | y => y
def mm_e (rho : Nat → Nat) (opq : Nat → Value) (cA : Nat → ClassId) (x : mm_C) : va_E := match x with
  | .inl (t, y) => .inl (cA t, mm_a rho y)
  | .inr (ci, fs) => .inr (ci, fs.map (mm_v rho opq))
/-- the world of the places -/
def mm_w (rho : Nat → Nat) (opq : Nat → Value) (cA : Nat → ClassId) (σ : List mm_C) : va_W := σ.mapIdx (fun k x => (rho k, mm_e rho opq cA x))
def mm_ty (t : Nat) : FieldType := match t with
  | 0 => .int
  | 1 => .long
  | 2 => .byte
  | 3 => .boolean
  | 4 => .int
  | _ => .object RX5
def mm_tys (cA : Nat → ClassId) : List (ClassId × FieldType) := [(cA 0, .int), (cA 1, .long), (cA 2, .byte), (cA 3, .boolean), (cA 4, .int), (cA 5, .object RX5)]
theorem mm_tys_at (cA : Nat → ClassId) {t : Nat} (h : t < 6) : (mm_tys cA)[t]? = some (cA t, mm_ty t) := by
  rcases (show t = 0 ∨ t = 1 ∨ t = 2 ∨ t = 3 ∨ t = 4 ∨ t = 5 by omega) with rfl | rfl | rfl | rfl | rfl | rfl <;> rfl
theorem mm_w_at {rho : Nat → Nat} {opq : Nat → Value} {cA : Nat → ClassId} {σ : List mm_C} {k : Nat} {x : mm_C} (h : σ[k]? = some x) : (mm_w rho opq cA σ)[k]? = some (rho k, mm_e rho opq cA x) := by
  simp [mm_w, List.getElem?_mapIdx, h]
theorem mm_w_set (rho : Nat → Nat) (opq : Nat → Value) (cA : Nat → ClassId) (σ : List mm_C) (k : Nat) (x : mm_C) : mm_w rho opq cA (σ.set k x) = (mm_w rho opq cA σ).set k (rho k, mm_e rho opq cA x) := by
  apply List.ext_getElem?
  intro j
  simp only [mm_w, List.getElem?_mapIdx, List.getElem?_set, List.length_mapIdx]
  by_cases h : k = j
  · subst h
    by_cases h2 : k < σ.length
    · simp [h2]
    · simp [h2]
  · simp [h]
theorem mm_w_app (rho : Nat → Nat) (opq : Nat → Value) (cA : Nat → ClassId) (σ : List mm_C) (x : mm_C) : mm_w rho opq cA (σ ++ [x]) = mm_w rho opq cA σ ++ [(rho σ.length, mm_e rho opq cA x)] := by
  simp [mm_w, List.mapIdx_append]
/-- what an array holds at j -/
def mm_at (rho : Nat → Nat) (x : vp_A) (j : Nat) : Value := match x.2 with
  | .inl f => .int (f j)
  | .inr (.inl f) => .long (f j)
  | .inr (.inr (.inl f)) => .float (f j)
  | .inr (.inr (.inr (.inl f))) => .double (f j)
  | .inr (.inr (.inr (.inr f))) => va_rf ((f j).map rho)
theorem mm_cell_at (rho : Nat → Nat) (cA : ClassId) (x : vp_A) : vp_cell cA (mm_a rho x) = arrV cA x.1 (mm_at rho x) := by
  obtain ⟨n, f | f | f | f | f⟩ := x <;> rfl
/-- the old arrays stand -/
def mm_oldA (P : mm_P) (rho : Nat → Nat) (B : Nat) (U : State) (H : Heap) : Prop := ∀ (a t : Nat) (x : vp_A), P.1 a = some (t, x) → 1000000 ≤ a → va_T (mm_ty t) (rho a) x.1 (mm_at rho x) (fun q => B ≤ q) U H
theorem mm_v_rf (rho : Nat → Nat) (opq : Nat → Value) (o : Option Nat) : mm_v rho opq (va_rf o) = va_rf (o.map rho) := by
  cases o <;> rfl
section MMR
variable {p : Program} {l : Launch} {e : Env} {R : Room} {s : State} {m : MethodId} {args : Array Value} {below : List Frame} {meth : Method} {c : Code} {H : Heap} {locs : List Loc} {cells slots : Nat} {Q : State → Prop}
variable {cc : ByteArray} {pc len : Nat} {ls : Array Slot} {rho : Nat → Nat} {opq : Nat → Value} {cA : Nat → ClassId} {D : va_G} {B : Nat} {P : mm_P} {σ : mm_H}
theorem mm_arr_cell (hK : va_K D vwCl (mm_tys cA) s) (hP : va_P D vwCl (mm_w rho opq cA σ.1) H) (hS : va_S (fun q => B ≤ q) s.heap H locs) (hO : mm_oldA P rho B s s.heap) {a t : Nat} {x : vp_A} (h : mm_arr P.1 σ a = some (t, x)) (ht : t < 6) :
    ∃ cell : Cell, H[rho a]? = some cell ∧ s.isArrayOf cell (mm_ty t) ∧ cell.vm ≠ .unknown ∧ x.1 ≤ cell.slots.size ∧ cell.slots.size.toInt32 = Int32.ofNat x.1 ∧ ∀ j : Nat, j < x.1 → cell.slots[j]? = some (mm_at rho x j) := by
  unfold mm_arr at h
  split at h
  · split at h
    · rename_i y hy
      cases h
      have h1 := hP a _ (mm_w_at hy)
      have h2 : H[rho a]? = some (arrV (cA t) x.1 (mm_at rho x)) := by
        rw [← mm_cell_at]
        exact h1
      refine ⟨_, h2, (hK.2 t _ (mm_tys_at cA ht)).1 _ _, (fun q => by cases q), (by rw [arrV_size]; exact Nat.le_refl _), (by rw [arrV_size] <;> rfl), fun j hj => ?_⟩
      rw [arrV_read _ _ hj]
    · cases h
  · rename_i h0
    obtain ⟨cell, g1, g2, g3, g4, g5, g6, -⟩ := (hO a t x h (by omega)).kept hS.2.1
    exact ⟨cell, g1, g2, g3, g4, g5, g6⟩
theorem mm_ard_sim (hx : p.tables.exec = Jvm.exec) (hb : c.code = cc) (hK : va_K D vwCl (mm_tys cA) s) (hP : va_P D vwCl (mm_w rho opq cA σ.1) H) (hS : va_S (fun q => B ≤ q) s.heap H locs) (hO : mm_oldA P rho B s s.heap) {i : Instr} {S r : List Value} (h : mm_ard P.1 i σ S = some r) (hd : decode cc pc = .ok (i, len)) (hn : len = mm_len i)
    (k : W p l e R s m args below meth c H locs cells slots Q (F0 m (pc + len) ls (r.map (mm_v rho opq)))) : W p l e R s m args below meth c H locs cells slots Q (F0 m pc ls (S.map (mm_v rho opq))) := by
  subst hn
  have low : ∀ {n : Nat} {j : Int32} {cell : Cell}, ¬ (j < 0 ∨ n ≤ j.toNatClampNeg) → n ≤ cell.slots.size → ¬ (j < 0 ∨ cell.slots.size ≤ j.toNatClampNeg) := by
    intro n j cell h1 h2 h3
    rcases h3 with h3 | h3
    · exact h1 (Or.inl h3)
    · exact h1 (Or.inr (Nat.le_trans h2 h3))
  have lt : ∀ {n : Nat} {j : Int32}, ¬ (j < 0 ∨ n ≤ j.toNatClampNeg) → j.toNatClampNeg < n := fun h => Nat.not_le.mp fun z => h (Or.inr z)
  cases i <;> simp only [mm_ard, reduceCtorEq] at h
  case iaload =>
    split at h
    · split at h
      · rename_i h1
        split at h
        · cases h
        · rename_i h2
          cases h
          obtain ⟨cell, g1, g2, g3, g4, -, g6⟩ := mm_arr_cell hK hP hS hO h1 (by decide)
          exact W.iald hx hb g1 g2 g3 (low h2 g4) (g6 _ (lt h2)) rfl rfl hd k
      · cases h
    · cases h
  case laload =>
    split at h
    · split at h
      · rename_i h1
        split at h
        · cases h
        · rename_i h2
          cases h
          obtain ⟨cell, g1, g2, g3, g4, -, g6⟩ := mm_arr_cell hK hP hS hO h1 (by decide)
          exact W.lald hx hb g1 g2 g3 (low h2 g4) (g6 _ (lt h2)) rfl rfl hd k
      · cases h
    · cases h
  case baload =>
    split at h
    · split at h
      · rename_i h1
        split at h
        · cases h
        · rename_i h2
          cases h
          obtain ⟨cell, g1, g2, g3, g4, -, g6⟩ := mm_arr_cell hK hP hS hO h1 (by decide)
          exact W.bald hx hb g1 g2 g3 (low h2 g4) (g6 _ (lt h2)) rfl rfl hd k
      · rename_i h1
        split at h
        · cases h
        · rename_i h2
          cases h
          obtain ⟨cell, g1, g2, g3, g4, -, g6⟩ := mm_arr_cell hK hP hS hO h1 (by decide)
          exact W.zald hx hb g1 g2 g3 (low h2 g4) (g6 _ (lt h2)) rfl rfl hd k
      · cases h
    · cases h
  case aaload =>
    split at h
    · split at h
      · rename_i h1
        split at h
        · cases h
        · rename_i h2
          cases h
          obtain ⟨cell, g1, g2, g3, g4, -, g6⟩ := mm_arr_cell hK hP hS hO h1 (by decide)
          refine W.aald hx hb g1 g2 rfl g3 (low h2 g4) (g6 _ (lt h2)) rfl rfl hd ?_
          rw [List.map_cons, mm_v_rf] at k
          exact k
      · cases h
    · cases h
  case arraylength =>
    split at h
    · split at h
      · rename_i h1
        split at h
        · rename_i ht
          cases h
          obtain ⟨cell, g1, g2, g3, g4, g5, g6⟩ := mm_arr_cell hK hP hS hO h1 ht
          exact W.alen hx hb g1 g2 g5 rfl rfl hd k
        · cases h
      · cases h
    · cases h
end MMR
end
section
/-- links to private members of nest mates -/
def mm_nest (w : Cond) : Bool := match w with
  | .fieldLinkNest _ _ _ _ _ _ => true
  | .methodLinkNest _ _ _ _ => true
  | .declares _ => true
  | .castable _ _ => true
  | _ => false
/-- the tables' words that a frame may use -/
def mm_T : List Cond := lx_tbl.filter (fun w => goodWord w || mm_nest w)
theorem inT0 : ∀ w ∈ wsX00, w ∈ mm_T := by decide +kernel
theorem inT1 : ∀ w ∈ wsX10, w ∈ mm_T := by decide +kernel
theorem inT2 : ∀ w ∈ wsX20, w ∈ mm_T := by decide +kernel
theorem inT3 : ∀ w ∈ wsX30, w ∈ mm_T := by decide +kernel
theorem inT4 : ∀ w ∈ wsX40, w ∈ mm_T := by decide +kernel
theorem inT5 : ∀ w ∈ wsX50, w ∈ mm_T := by decide +kernel
theorem inT6 : ∀ w ∈ wsX60, w ∈ mm_T := by decide +kernel
theorem inT7 : ∀ w ∈ wsX70, w ∈ mm_T := by decide +kernel
theorem inT8 : ∀ w ∈ wsX80, w ∈ mm_T := by decide +kernel
theorem inT9 : ∀ w ∈ wsX90, w ∈ mm_T := by decide +kernel
theorem inT10 : ∀ w ∈ wsX100, w ∈ mm_T := by decide +kernel
theorem inT11 : ∀ w ∈ wsJ00, w ∈ mm_T := by decide +kernel
theorem inT12 : ∀ w ∈ wsJ40, w ∈ mm_T := by decide +kernel
/-- the heap is the places' world; while nothing was thrown its size is known -/
def mm_rel (rho : Nat → Nat) (opq : Nat → Value) (cA : Nat → ClassId) (D : va_G) (B : Nat) (s : State) (σ : mm_H) (H : Heap) (locs : List Loc) (cells : Nat) : Prop :=
  va_P D vwCl (mm_w rho opq cA σ.1) H ∧ va_S (fun q => B ≤ q) s.heap H locs ∧ (σ.2.1 = true → H.size = B + σ.1.length ∧ H.size = s.heap.size + cells) ∧ B + σ.1.length ≤ H.size ∧ σ.1.length ≤ 1000000
def mm_rho (rho : Nat → Nat) (B : Nat) : Prop := ∀ k, k < 1000000 → rho k = B + k
theorem mm_w_D {rho : Nat → Nat} {opq : Nat → Value} {cA : Nat → ClassId} {B : Nat} {σ : List mm_C} (hr : mm_rho rho B) (hl : σ.length ≤ 1000000) : va_D (fun q => B ≤ q) (mm_w rho opq cA σ) := by
  have g : ∀ (k : Nat) (q : Nat × va_E), (mm_w rho opq cA σ)[k]? = some q → q.1 = B + k := by
    intro k q h
    simp only [mm_w, List.getElem?_mapIdx, Option.map_eq_some_iff] at h
    obtain ⟨x, h1, h2⟩ := h
    have h3 : k < σ.length := (List.getElem?_eq_some_iff.mp h1).1
    rw [← h2]
    exact hr k (by omega)
  refine ⟨fun i j p q hp hq e => ?_, fun k q hq => ?_⟩
  · have h1 := g i p hp
    have h2 := g j q hq
    omega
  · have h1 := g k q hq
    show B ≤ q.1
    omega
theorem mm_S_tr {A : Nat → Prop} {H0 H H1 : Heap} {locs locs1 : List Loc} (h : va_S A H0 H locs) (h1 : va_S A H H1 locs1) : va_S A H0 H1 locs1 := by
  refine ⟨Nat.le_trans h.1 h1.1, fun q hq hA => ?_, h1.2.2⟩
  rw [h1.2.1 q (Nat.lt_of_lt_of_le hq h.1) hA]
  exact h.2.1 q hq hA
theorem mm_S_self {A : Nat → Prop} {H0 H : Heap} {locs : List Loc} (h : va_S A H0 H locs) : va_S A H H locs := ⟨Nat.le_refl _, fun _ _ _ => rfl, h.2.2⟩
/-- what the classes' tables say, by the class's number -/
theorem mm_cls {ci : Nat} {C : String} {T : u_T} {N : Nat} (h : vwCl[ci]? = some (C, T, N)) : (∀ w ∈ u_ws C T N, w ∈ mm_T) ∧ (∃ ty0 : Nat → FieldType, ∀ k, k < N → parseFieldDescriptor (T k).2.2.1 = some (ty0 k)) ∧ (∀ a, a < N → ∀ b, b < N → a ≠ b → (T a).2.1 ≠ (T b).2.1) := by
  match ci, h with
  | 0, h => cases h; exact ⟨inT0, ⟨tyX0, tyX0_ok⟩, nmX0⟩
  | 1, h => cases h; exact ⟨inT1, ⟨tyX1, tyX1_ok⟩, nmX1⟩
  | 2, h => cases h; exact ⟨inT2, ⟨tyX2, tyX2_ok⟩, nmX2⟩
  | 3, h => cases h; exact ⟨inT3, ⟨tyX3, tyX3_ok⟩, nmX3⟩
  | 4, h => cases h; exact ⟨inT4, ⟨tyX4, tyX4_ok⟩, nmX4⟩
  | 5, h => cases h; exact ⟨inT5, ⟨tyX5, tyX5_ok⟩, nmX5⟩
  | 6, h => cases h; exact ⟨inT6, ⟨tyX6, tyX6_ok⟩, nmX6⟩
  | 7, h => cases h; exact ⟨inT7, ⟨tyX7, tyX7_ok⟩, nmX7⟩
  | 8, h => cases h; exact ⟨inT8, ⟨tyX8, tyX8_ok⟩, nmX8⟩
  | 9, h => cases h; exact ⟨inT9, ⟨tyX9, tyX9_ok⟩, nmX9⟩
  | 10, h => cases h; exact ⟨inT10, ⟨tyX10, tyX10_ok⟩, nmX10⟩
  | 11, h => cases h; exact ⟨inT11, ⟨tyJ0, tyJ0_ok⟩, nmJ0⟩
  | 12, h => cases h; exact ⟨inT12, ⟨tyJ4, tyJ4_ok⟩, nmJ4⟩
  | n + 13, h => simp [vwCl] at h
/-- a field that an instruction of class own names by idx: the k-th of class ci -/
def mm_fE (own : String) (idx ci k : Nat) : Prop := ∃ (C : String) (T : u_T) (N : Nat), vwCl[ci]? = some (C, T, N) ∧ k < N ∧ (Cond.fieldLink own idx (T k).1 (T k).2.1 (T k).2.2.1 ∈ mm_T ∨ ∃ host, Cond.fieldLinkNest own idx (T k).1 (T k).2.1 (T k).2.2.1 host ∈ mm_T)
/-- .. that may be written: not final, or final, in the class's own constructor -/
def mm_fW (own yn : String) (idx ci k : Nat) (ty : FieldType) : Prop := ∃ (C : String) (T : u_T) (N : Nat), vwCl[ci]? = some (C, T, N) ∧ k < N ∧ parseFieldDescriptor (T k).2.2.1 = some ty ∧
  (((T k).2.2.2 = false ∧ (Cond.fieldLink own idx (T k).1 (T k).2.1 (T k).2.2.1 ∈ mm_T ∨ ∃ host, Cond.fieldLinkNest own idx (T k).1 (T k).2.1 (T k).2.2.1 host ∈ mm_T)) ∨ ((T k).2.2.2 = true ∧ yn = "<init>" ∧ (T k).1 = own ∧ Cond.fieldLink own idx (T k).1 (T k).2.1 (T k).2.2.1 ∈ mm_T))
theorem mm_fit_ok {rho : Nat → Nat} {opq : Nat → Value} {ty : FieldType} {v : Value} (h : mm_fit ty v = true) : narrow ty (mm_v rho opq v) = mm_v rho opq v ∧ fits ty (mm_v rho opq v) = true := by
  unfold mm_fit at h
  split at h
  · exact ⟨rfl, rfl⟩
  · exact ⟨rfl, rfl⟩
  · rename_i x
    simp only [Bool.or_eq_true, beq_iff_eq] at h
    rcases h with rfl | rfl <;> exact ⟨rfl, rfl⟩
  · rename_i x
    simp only [Bool.or_eq_true, beq_iff_eq] at h
    rcases h with rfl | rfl <;> exact ⟨rfl, rfl⟩
  · exact ⟨rfl, rfl⟩
  · exact ⟨rfl, rfl⟩
  · exact ⟨rfl, rfl⟩
  · exact ⟨rfl, rfl⟩
  · cases h
theorem mm_fs_at {rho : Nat → Nat} {opq : Nat → Value} {fs : List Value} {j : Nat} {v : Value} (h : fs[j]? = some v) : (fs.map (mm_v rho opq))[j]? = some (mm_v rho opq v) := by
  rw [List.getElem?_map, h]
  rfl
section MMW
variable {p : Program} {l : Launch} {e : Env} {R : Room} {s : State} {m : MethodId} {args : Array Value} {below : List Frame} {meth : Method} {c : Code} {H : Heap} {locs : List Loc} {cells slots : Nat} {Q : State → Prop}
variable {cc : ByteArray} {pc len : Nat} {ls : Array Slot} {rho : Nat → Nat} {opq : Nat → Value} {cA : Nat → ClassId} {D : va_G} {B : Nat} {P : mm_P} {σ : mm_H}
theorem mm_W_size {g : JFrame} (h : H.size ≤ s.heap.size + cells → W p l e R s m args below meth c H locs cells slots Q g) : W p l e R s m args below meth c H locs cells slots Q g := by
  intro T hT X
  exact h (by rw [← hT]; exact X.heapSize) T hT X
/-- behind a write to one place -/
theorem mm_wrote {g : JFrame} {a : Nat} {x : mm_C} {H1 : Heap} {locs1 : List Loc} (hR : mm_rel rho opq cA D B s σ H locs cells) (hP1 : va_P D vwCl (mm_w rho opq cA (σ.1.set a x)) H1) (hS1 : va_S (fun q => B ≤ q) H H1 locs1)
    (k : mm_rel rho opq cA D B s (mm_set σ a x) H1 locs1 cells → W p l e R s m args below meth c H1 locs1 cells slots Q g) : W p l e R s m args below meth c H1 locs1 cells slots Q g := by
  refine mm_W_size fun hz => k ⟨hP1, mm_S_tr hR.2.1 hS1, fun hc => ?_, ?_, ?_⟩
  · obtain ⟨h1, h2⟩ := hR.2.2.1 hc
    have h3 := hS1.1
    have e1 : (mm_set σ a x).1.length = σ.1.length := by simp [mm_set]
    rw [e1]
    omega
  · have h3 := hS1.1
    have e1 : (mm_set σ a x).1.length = σ.1.length := by simp [mm_set]
    have h4 := hR.2.2.2.1
    rw [e1]
    omega
  · have e1 : (mm_set σ a x).1.length = σ.1.length := by simp [mm_set]
    rw [e1]
    exact hR.2.2.2.2
theorem mm_up_map (rho : Nat → Nat) (f : Nat → Option Nat) (i v : Nat) : (fun j => (va_up f i (some v) j).map rho) = va_up (fun j => (f j).map rho) i (some (rho v)) := by
  funext j
  unfold va_up
  by_cases h : j = i <;> simp [h]
theorem mm_awr_sim (hx : p.tables.exec = Jvm.exec) (hb : c.code = cc) (hr : mm_rho rho B) (hK : va_K D vwCl (mm_tys cA) s) (hR : mm_rel rho opq cA D B s σ H locs cells) {i : Instr} {S r : List Value} {σ' : mm_H} (h : mm_awr i σ S = some (σ', r)) (hd : decode cc pc = .ok (i, len)) (hn : len = mm_len i)
    (k : ∀ (H1 : Heap) (locs1 : List Loc), mm_rel rho opq cA D B s σ' H1 locs1 cells → W p l e R s m args below meth c H1 locs1 cells slots Q (F0 m (pc + len) ls (r.map (mm_v rho opq)))) : W p l e R s m args below meth c H locs cells slots Q (F0 m pc ls (S.map (mm_v rho opq))) := by
  subst hn
  have hD := mm_w_D (opq := opq) (cA := cA) hr hR.2.2.2.2
  have hS := mm_S_self hR.2.1
  cases i <;> simp only [mm_awr, reduceCtorEq] at h
  case iastore =>
    split at h
    · split at h
      · rename_i h1
        split at h
        · cases h
        · rename_i h2
          cases h
          exact va_iast hx hb hK hR.1 hD hS _ 0 (mm_w_at h1) rfl h2 hd (fun H1 locs1 hP1 _ hS1 => mm_wrote hR (by rw [mm_w_set]; exact hP1) hS1 (k H1 locs1))
      · cases h
    · cases h
  case lastore =>
    split at h
    · split at h
      · rename_i h1
        split at h
        · cases h
        · rename_i h2
          cases h
          exact va_last hx hb hK hR.1 hD hS _ 1 (mm_w_at h1) rfl h2 hd (fun H1 locs1 hP1 _ hS1 => mm_wrote hR (by rw [mm_w_set]; exact hP1) hS1 (k H1 locs1))
      · cases h
    · cases h
  case bastore =>
    split at h
    · split at h
      · rename_i h1
        split at h
        · cases h
        · rename_i h2
          cases h
          exact va_bast hx hb hK hR.1 hD hS _ 2 (mm_w_at h1) rfl h2 hd (fun H1 locs1 hP1 _ hS1 => mm_wrote hR (by rw [mm_w_set]; exact hP1) hS1 (k H1 locs1))
      · rename_i h1
        split at h
        · cases h
        · rename_i h2
          cases h
          exact va_zast hx hb hK hR.1 hD hS _ 3 (mm_w_at h1) rfl h2 hd (fun H1 locs1 hP1 _ hS1 => mm_wrote hR (by rw [mm_w_set]; exact hP1) hS1 (k H1 locs1))
      · cases h
    · cases h
  case aastore =>
    split at h
    · split at h
      · rename_i h1
        split at h
        · cases h
        · rename_i h2
          split at h
          · rename_i h3
            cases h
            refine va_astq (r := (RX5, TX5, 8)) hx hb hK hR.1 hD hS _ 5 _ 5 (mm_w_at h1) rfl (mm_w_at h3) rfl h2 hd (fun H1 locs1 hP1 _ hS1 => mm_wrote hR ?_ hS1 (k H1 locs1))
            rw [mm_w_set]
            simp only [mm_e, mm_a, mm_up_map]
            exact hP1
          · cases h
      · cases h
    · cases h
theorem mm_getf_sim (hx : p.tables.exec = Jvm.exec) (hb : c.code = cc) (hts : ∀ w ∈ mm_T, w.before args s = true) {own : String} (hown : s.vm.findClass own = some m.cls) (hK : va_K D vwCl (mm_tys cA) s) (hP : va_P D vwCl (mm_w rho opq cA σ.1) H) {ci j idx : Nat} {S r : List Value} (h : mm_getf σ ci j S = some r) (hd : decode cc pc = .ok (.getfield idx, 3)) (hE : mm_fE own idx ci j)
    (k : W p l e R s m args below meth c H locs cells slots Q (F0 m (pc + 3) ls (r.map (mm_v rho opq)))) : W p l e R s m args below meth c H locs cells slots Q (F0 m pc ls (S.map (mm_v rho opq))) := by
  obtain ⟨C, T, N, e1, e2, e3⟩ := hE
  obtain ⟨f1, -, -⟩ := mm_cls e1
  unfold mm_getf at h
  split at h
  · split at h
    · rename_i h1
      split at h
      · rename_i h2
        subst h2
        split at h
        · rename_i v h3
          cases h
          have hv := mm_fs_at (rho := rho) (opq := opq) h3
          rcases e3 with e3 | ⟨host, e3⟩
          · exact va_get hx hb hts f1 hown hK hP _ (mm_w_at h1) e1 j e2 (hts _ e3) (fun _ h9 => h9) hv hd k
          · exact va_getN hx hb hts f1 hown hK hP _ (mm_w_at h1) e1 j e2 (hts _ e3) (fun _ h9 => h9) hv hd k
        · cases h
      · cases h
    · cases h
  · cases h
theorem mm_putf_sim (hx : p.tables.exec = Jvm.exec) (hb : c.code = cc) (hr : mm_rho rho B) (hts : ∀ w ∈ mm_T, w.before args s = true) {own yn : String} (hown : s.vm.findClass own = some m.cls) (hyn : yn = "<init>" → meth.name = "<init>") (hK : va_K D vwCl (mm_tys cA) s) (hR : mm_rel rho opq cA D B s σ H locs cells) {ci j idx : Nat} {S r : List Value} {σ' : mm_H} {ty : FieldType} (h : mm_putf P σ ci j S = some (σ', r)) (hd : decode cc pc = .ok (.putfield idx, 3)) (hty : P.2.2.2.2.2 ci j = some ty) (hE : mm_fW own yn idx ci j ty)
    (k : ∀ (H1 : Heap) (locs1 : List Loc), mm_rel rho opq cA D B s σ' H1 locs1 cells → W p l e R s m args below meth c H1 locs1 cells slots Q (F0 m (pc + 3) ls (r.map (mm_v rho opq)))) : W p l e R s m args below meth c H locs cells slots Q (F0 m pc ls (S.map (mm_v rho opq))) := by
  have hD := mm_w_D (opq := opq) (cA := cA) hr hR.2.2.2.2
  have hS := mm_S_self hR.2.1
  obtain ⟨C, T, N, e1, e2, e3, e4⟩ := hE
  obtain ⟨f1, ⟨ty0, f2⟩, f3⟩ := mm_cls e1
  unfold mm_putf at h
  split at h
  · split at h
    · rename_i h1
      split at h
      · rename_i h2
        subst h2
        rw [hty] at h
        dsimp only at h
        split at h
        · rename_i h4
          cases h
          obtain ⟨n1, n2⟩ := mm_fit_ok (rho := rho) (opq := opq) h4.1
          have fin : ∀ (H1 : Heap) (locs1 : List Loc) {q : Nat} {x : mm_C} {w : va_W}, w = mm_w rho opq cA (σ.1.set q x) → va_P D vwCl w H1 → va_S (fun q => B ≤ q) H H1 locs1 → (mm_rel rho opq cA D B s (mm_set σ q x) H1 locs1 cells → W p l e R s m args below meth c H1 locs1 cells slots Q (F0 m (pc + 3) ls (r.map (mm_v rho opq)))) → W p l e R s m args below meth c H1 locs1 cells slots Q (F0 m (pc + 3) ls (r.map (mm_v rho opq))) := by
            intro H1 locs1 q x w ew hP1 hS1 kk
            subst ew
            exact mm_wrote hR hP1 hS1 kk
          rcases e4 with ⟨g1, g2⟩ | ⟨g1, g2, g3, g4⟩
          · rcases g2 with g2 | ⟨host, g2⟩
            · exact va_put hx hb hts f1 ty0 f2 f3 hown hK hR.1 hD hS _ (mm_w_at h1) e1 j e2 (hts _ g2) (fun _ h9 => h9) g1 e3 n1 n2 (by rw [List.length_map]; exact h4.2) hd (fun H1 locs1 hP1 _ hS1 => fin H1 locs1 (by rw [mm_w_set]; simp only [mm_e, List.map_set]) hP1 hS1 (k H1 locs1))
            · exact va_putN hx hb hts f1 ty0 f2 f3 hown hK hR.1 hD hS _ (mm_w_at h1) e1 j e2 (hts _ g2) (fun _ h9 => h9) g1 e3 n1 n2 (by rw [List.length_map]; exact h4.2) hd (fun H1 locs1 hP1 _ hS1 => fin H1 locs1 (by rw [mm_w_set]; simp only [mm_e, List.map_set]) hP1 hS1 (k H1 locs1))
          · exact va_putF hx hb hts f1 ty0 f2 f3 hown hK hR.1 hD hS _ (mm_w_at h1) e1 j e2 (hts _ g4) (fun _ h9 => h9) g1 (hyn g2) g3 e3 n1 n2 (by rw [List.length_map]; exact h4.2) hd (fun H1 locs1 hP1 _ hS1 => fin H1 locs1 (by rw [mm_w_set]; simp only [mm_e, List.map_set]) hP1 hS1 (k H1 locs1))
        · cases h
      · cases h
    · cases h
  · cases h
end MMW
end
section
def mm_plain (v : Value) : Bool := match v with
  | .ref _ => false
  | .retAddr _ => false
  | _ => true
theorem mm_plain_v {rho : Nat → Nat} {opq : Nat → Value} {v : Value} (h : mm_plain v = true) : mm_v rho opq v = v := by
  cases v <;> first | rfl | cases h
theorem mm_plain_map {rho : Nat → Nat} {opq : Nat → Value} : ∀ {fs : List Value}, fs.all mm_plain = true → fs.map (mm_v rho opq) = fs
  | [], _ => rfl
  | v :: r, h => by
    simp only [List.all_cons, Bool.and_eq_true] at h
    rw [List.map_cons, mm_plain_v h.1, mm_plain_map h.2]
/-- an object of class ci that an instruction of class own makes, its first values fs -/
def mm_nE (own : String) (idx ci : Nat) (fs : List Value) : Prop := ∃ (C : String) (T : u_T) (N : Nat) (ty : Nat → FieldType), vwCl[ci]? = some (C, T, N) ∧ (∀ k, k < N → parseFieldDescriptor (T k).2.2.1 = some (ty k)) ∧ fs.length = N ∧ (∀ k, k < N → defaultValue (ty k) = fs.getD k .null) ∧ fs.all mm_plain = true ∧ Cond.classLink own idx C ∈ mm_T ∧ Cond.instantiable C N ∈ mm_T ∧ Cond.initialized C ∈ mm_T
def mm_at9 (t : Nat) : ArrayType := match t with
  | 0 => .int
  | 1 => .long
  | 2 => .byte
  | 3 => .boolean
  | _ => .double
theorem mm_RA {s : State} {c1 c2 : ClassId} {ty : FieldType} (h1 : va_RA s c1 ty) (h2 : va_RA s c2 ty) : c1 = c2 := by
  cases ty with
  | object C =>
    obtain ⟨-, -, -, -, -, g1⟩ := h1
    obtain ⟨-, -, -, -, -, g2⟩ := h2
    exact Option.some.inj (g1.symm.trans g2)
  | _ => exact Option.some.inj (Eq.trans (Eq.symm h1) h2)
theorem mm_w_len (rho : Nat → Nat) (opq : Nat → Value) (cA : Nat → ClassId) (σ : List mm_C) : (mm_w rho opq cA σ).length = σ.length := by simp [mm_w]
theorem mm_byt_at {f : Nat → Int32} {sp n : Nat} (h : mm_byt f sp n = true) : ∀ i : Nat, i < n → fits .byte (.int (f (sp + i))) = true := fun i hi => List.all_eq_true.mp h i (List.mem_range.mpr hi)
/-- the words of a byte array's copy -/
def mm_clW (own : String) (idx i2 : Nat) : List Cond := [Cond.methodLink own idx ⟨"[B", "clone", "()Ljava/lang/Object;"⟩, Cond.sameMethod "[B" "java/lang/Object" "clone" "()Ljava/lang/Object;", Cond.native ⟨"java/lang/Object", "clone", "()Ljava/lang/Object;"⟩, Cond.instanceMethod ⟨"java/lang/Object", "clone", "()Ljava/lang/Object;"⟩, Cond.selects "[B" ⟨"[B", "clone", "()Ljava/lang/Object;"⟩ ⟨"java/lang/Object", "clone", "()Ljava/lang/Object;"⟩, Cond.castable "[B" "java/lang/Cloneable", Cond.classLink own i2 "[B"]
section MMM
variable {p : Program} {l : Launch} {e : Env} {R : Room} {s : State} {m : MethodId} {args : Array Value} {below : List Frame} {meth : Method} {c : Code} {H : Heap} {locs : List Loc} {cells slots : Nat} {Q : State → Prop}
variable {cc : ByteArray} {pc len : Nat} {ls : Array Slot} {rho : Nat → Nat} {opq : Nat → Value} {cA : Nat → ClassId} {D : va_G} {B : Nat} {P : mm_P} {σ : mm_H}
theorem mm_made {g : JFrame} {q : Nat} {y : va_E} {x : mm_C} {n sl : Nat} {H1 : Heap} (hr : mm_rho rho B) (hR : mm_rel rho opq cA D B s σ H locs cells) (hc : σ.2.1 = true) (hl : σ.1.length < 1000000) (hP1 : va_P D vwCl (mm_w rho opq cA σ.1 ++ [(q, y)]) H1) (hD1 : va_D (fun q => B ≤ q) (mm_w rho opq cA σ.1 ++ [(q, y)])) (hS1 : va_S (fun q => B ≤ q) H H1 locs) (hy : y = mm_e rho opq cA x)
    (k : q = rho σ.1.length → mm_rel rho opq cA D B s (mm_add σ x n) H1 locs (cells + 1) → W p l e R s m args below meth c H1 locs (cells + 1) sl Q g) : W p l e R s m args below meth c H1 locs (cells + 1) sl Q g := by
  refine mm_W_size fun hz => ?_
  obtain ⟨h1, h2⟩ := hR.2.2.1 hc
  have hlast : (mm_w rho opq cA σ.1 ++ [(q, y)])[σ.1.length]? = some (q, y) := by
    rw [List.getElem?_append_right (by rw [mm_w_len]; exact Nat.le_refl _), mm_w_len]
    simp
  have hq1 : q < H1.size := vx_lt hP1 hlast
  have hBq : B ≤ q := hD1.2 _ _ hlast
  have hq2 : ¬ q < H.size := by
    intro hlt
    obtain ⟨k9, hk9⟩ : ∃ k9, q = B + k9 := ⟨q - B, by omega⟩
    have hk : k9 < σ.1.length := by omega
    have h3 : (mm_w rho opq cA σ.1 ++ [(q, y)])[k9]? = some (rho k9, mm_e rho opq cA (σ.1[k9]'hk)) := by
      rw [List.getElem?_append_left (by rw [mm_w_len]; exact hk)]
      exact mm_w_at (List.getElem?_eq_getElem hk)
    have h4 := hD1.1 k9 σ.1.length _ _ h3 hlast (by show rho k9 = q; rw [hr k9 (by omega), hk9])
    omega
  have hq : q = rho σ.1.length := by rw [hr _ hl]; omega
  refine k hq ⟨?_, mm_S_tr hR.2.1 hS1, fun _ => ?_, ?_, ?_⟩
  · show va_P D vwCl (mm_w rho opq cA (σ.1 ++ [x])) H1
    rw [mm_w_app, ← hq, ← hy]
    exact hP1
  · show H1.size = B + (σ.1 ++ [x]).length ∧ _
    rw [List.length_append, List.length_singleton]
    omega
  · show B + (σ.1 ++ [x]).length ≤ H1.size
    rw [List.length_append, List.length_singleton]
    omega
  · show (σ.1 ++ [x]).length ≤ 1000000
    rw [List.length_append, List.length_singleton]
    omega
theorem mm_new_sim (hx : p.tables.exec = Jvm.exec) (hb : c.code = cc) (hr : mm_rho rho B) (hts : ∀ w ∈ mm_T, w.before args s = true) {own : String} (hown : s.vm.findClass own = some m.cls) (hK : va_K D vwCl (mm_tys cA) s) (hR : mm_rel rho opq cA D B s σ H locs cells) {ci idx : Nat} {S : List Value} {σ' : mm_H} {v : Value} {fs : List Value} (h : mm_new P σ ci = some (σ', v)) (hf : P.2.2.2.2.1 ci = some fs) (hd : decode cc pc = .ok (.new idx, 3)) (hE : mm_nE own idx ci fs) (hcells : cells + 1 ≤ R.cells) (hslots : slots + fs.length ≤ R.slots)
    (k : ∀ (H1 : Heap), mm_rel rho opq cA D B s σ' H1 locs (cells + 1) → W p l e R s m args below meth c H1 locs (cells + 1) (slots + fs.length) Q (F0 m (pc + 3) ls ((v :: S).map (mm_v rho opq)))) : W p l e R s m args below meth c H locs cells slots Q (F0 m pc ls (S.map (mm_v rho opq))) := by
  obtain ⟨C, T, N, ty, e1, e2, e3, e4, e5, e6, e7, e8⟩ := hE
  obtain ⟨f1, -, -⟩ := mm_cls e1
  unfold mm_new at h
  split at h
  · rename_i h0
    rw [hf] at h
    cases h
    subst e3
    have hD := mm_w_D (opq := opq) (cA := cA) hr hR.2.2.2.2
    refine va_new (fs := fs) hx hb hts f1 ty e2 hown (hts _ e6) (hts _ e7) (hts _ e8) hK hR.1 hD (mm_S_self hR.2.1) (fun q hq => Nat.le_trans (Nat.le_trans (Nat.le_add_right _ _) hR.2.2.2.1) hq) e1 e4 hcells hslots hd (fun q H1 hP1 hD1 hS1 => ?_)
    refine mm_made (x := .inr (ci, fs)) (n := fs.length) hr hR h0.1 h0.2 hP1 hD1 hS1 (by simp only [mm_e, mm_plain_map e5]) (fun hq hR1 => ?_)
    rw [hq]
    exact k H1 hR1
  · cases h
theorem mm_newa_sim (hx : p.tables.exec = Jvm.exec) (hb : c.code = cc) (hr : mm_rho rho B) (hts : ∀ w ∈ mm_T, w.before args s = true) (hK : va_K D vwCl (mm_tys cA) s) (hR : mm_rel rho opq cA D B s σ H locs cells) {t : Nat} {S r : List Value} {σ' : mm_H} (h : mm_newa σ t S = some (σ', r)) (ht : t < 4) (hd : decode cc pc = .ok (.newarray (mm_at9 t), 2)) (hE : Cond.arrayClass (mm_ty t) ∈ mm_T) (hcells : cells + 1 ≤ R.cells) (hslots : slots + (σ'.2.2.2 - σ.2.2.2) ≤ R.slots)
    (k : ∀ (H1 : Heap), mm_rel rho opq cA D B s σ' H1 locs (cells + 1) → W p l e R s m args below meth c H1 locs (cells + 1) (slots + (σ'.2.2.2 - σ.2.2.2)) Q (F0 m (pc + 2) ls (r.map (mm_v rho opq)))) : W p l e R s m args below meth c H locs cells slots Q (F0 m pc ls (S.map (mm_v rho opq))) := by
  unfold mm_newa at h
  split at h
  · rename_i n r'
    split at h
    · rename_i h0
      split at h
      · rename_i a0 hz
        cases h
        have hD := mm_w_D (opq := opq) (cA := cA) hr hR.2.2.2.2
        have hsl : (mm_add σ (.inl (t, a0)) n.toNatClampNeg).2.2.2 - σ.2.2.2 = n.toNatClampNeg := by simp [mm_add]
        rw [hsl] at hslots k
        have hty : newarray.typeOf (mm_at9 t) = mm_ty t := by
          rcases (show t = 0 ∨ t = 1 ∨ t = 2 ∨ t = 3 by omega) with rfl | rfl | rfl | rfl <;> rfl
        have ha : ∀ c0 : ClassId, vp_cell c0 (mm_a rho a0) = arrV c0 n.toNatClampNeg (fun _ => defaultValue (mm_ty t)) := by
          rcases (show t = 0 ∨ t = 1 ∨ t = 2 ∨ t = 3 by omega) with rfl | rfl | rfl | rfl <;> cases hz <;> intro c0 <;> rfl
        have hby : n.toNatClampNeg * componentBytes (mm_ty t) ≤ 536870912 := by
          have h8 : componentBytes (mm_ty t) ≤ 8 := by
            rcases (show t = 0 ∨ t = 1 ∨ t = 2 ∨ t = 3 by omega) with rfl | rfl | rfl | rfl <;> decide
          exact Nat.le_trans (Nat.mul_le_mul (Nat.le_of_lt h0.2.2.2) h8) (Nat.le_of_ble_eq_true rfl)
        refine va_newa hx hb (by rw [hty]; exact hts _ hE) hty hK hR.1 hD (mm_S_self hR.2.1) (fun q hq => Nat.le_trans (Nat.le_trans (Nat.le_add_right _ _) hR.2.2.2.1) hq) (a0 := mm_a rho a0) ha h0.2.2.1 rfl hby hcells hslots hd (fun q c0 H1 hK1 hP1 hD1 hS1 => ?_)
        have hc0 : c0 = cA t := mm_RA (hK1.2 6 (c0, mm_ty t) rfl).2 (hK.2 t (cA t, mm_ty t) (mm_tys_at cA (by omega))).2
        subst hc0
        refine mm_made (x := .inl (t, a0)) (n := n.toNatClampNeg) hr hR h0.1 h0.2.1 hP1 hD1 hS1 rfl (fun hq hR1 => ?_)
        rw [hq]
        exact k H1 hR1
      · cases h
    · cases h
  · cases h
theorem mm_newq_sim (hx : p.tables.exec = Jvm.exec) (hb : c.code = cc) (hr : mm_rho rho B) (hts : ∀ w ∈ mm_T, w.before args s = true) (hAO : va_AO RX5 s) {own : String} (hown : s.vm.findClass own = some m.cls) (hK : va_K D vwCl (mm_tys cA) s) (hR : mm_rel rho opq cA D B s σ H locs cells) {idx : Nat} {S r : List Value} {σ' : mm_H} (h : mm_newa σ 5 S = some (σ', r)) (hd : decode cc pc = .ok (.anewarray idx, 3)) (hE : Cond.classLink own idx RX5 ∈ mm_T) (hcells : cells + 1 ≤ R.cells) (hslots : slots + (σ'.2.2.2 - σ.2.2.2) ≤ R.slots)
    (k : ∀ (H1 : Heap), mm_rel rho opq cA D B s σ' H1 locs (cells + 1) → W p l e R s m args below meth c H1 locs (cells + 1) (slots + (σ'.2.2.2 - σ.2.2.2)) Q (F0 m (pc + 3) ls (r.map (mm_v rho opq)))) : W p l e R s m args below meth c H locs cells slots Q (F0 m pc ls (S.map (mm_v rho opq))) := by
  unfold mm_newa at h
  split at h
  · rename_i n r'
    split at h
    · rename_i h0
      split at h
      · rename_i a0 hz
        cases h
        have hD := mm_w_D (opq := opq) (cA := cA) hr hR.2.2.2.2
        have hsl : (mm_add σ (.inl (5, a0)) n.toNatClampNeg).2.2.2 - σ.2.2.2 = n.toNatClampNeg := by simp [mm_add]
        rw [hsl] at hslots k
        cases hz
        have hby : n.toNatClampNeg * 4 ≤ 536870912 := Nat.le_trans (Nat.mul_le_mul (Nat.le_of_lt h0.2.2.2) (Nat.le_refl 4)) (Nat.le_of_ble_eq_true rfl)
        refine va_newq hx hb hown (hts _ hE) hAO hK hR.1 hD (mm_S_self hR.2.1) (fun q hq => Nat.le_trans (Nat.le_trans (Nat.le_add_right _ _) hR.2.2.2.1) hq) h0.2.2.1 rfl hby hcells hslots hd (fun q c0 H1 hK1 hP1 hD1 hS1 => ?_)
        have hc0 : c0 = cA 5 := mm_RA (hK1.2 6 (c0, .object RX5) rfl).2 (hK.2 5 (cA 5, .object RX5) rfl).2
        subst hc0
        refine mm_made (x := .inl (5, (n.toNatClampNeg, .inr (.inr (.inr (.inr (fun _ => none))))))) (n := n.toNatClampNeg) hr hR h0.1 h0.2.1 hP1 hD1 hS1 rfl (fun hq hR1 => ?_)
        rw [hq]
        exact k H1 hR1
      · cases h
    · cases h
  · cases h
theorem mm_mon0 : (F0 m pc ls ([] : List Value)).monitorRoom = 0 := rfl
theorem mm_sum_v (ho : mm_opq opq) (S : List Value) : ((S.map (mm_v rho opq)).map fun v => v.category).sum = mm_sum S := by
  unfold mm_sum
  rw [List.map_map]
  congr 1
  apply List.map_congr_left
  intro v _
  exact mm_v_cat ho v
theorem mm_wrote0 {g : JFrame} {a : Nat} {x y : mm_C} {H1 : Heap} {locs1 : List Loc} (hr : mm_rho rho B) (hR : mm_rel rho opq cA D B s σ H locs cells) (ha : σ.1[a]? = some y) (hP1 : va_P D vwCl (mm_w rho opq cA (σ.1.set a x)) H1) (hS1 : va_S (fun q => B ≤ q) s.heap H1 locs1)
    (k : mm_rel rho opq cA D B s (mm_set σ a x) H1 locs1 cells → W p l e R s m args below meth c H1 locs1 cells slots Q g) : W p l e R s m args below meth c H1 locs1 cells slots Q g := by
  refine mm_W_size fun hz => k ?_
  have hlt : a < σ.1.length := (List.getElem?_eq_some_iff.mp ha).1
  have hlen : (σ.1.set a x).length = σ.1.length := List.length_set
  have hml := hR.2.2.2.2
  have hlast : (mm_w rho opq cA (σ.1.set a x))[σ.1.length - 1]? = some (rho (σ.1.length - 1), mm_e rho opq cA ((σ.1.set a x)[σ.1.length - 1]'(by omega))) := mm_w_at (List.getElem?_eq_getElem (by omega))
  have hq := vx_lt hP1 hlast
  rw [hr _ (by omega)] at hq
  refine ⟨hP1, hS1, fun hc => ?_, ?_, ?_⟩
  · obtain ⟨g1, g2⟩ := hR.2.2.1 hc
    show H1.size = B + (σ.1.set a x).length ∧ _
    rw [hlen]
    omega
  · show B + (σ.1.set a x).length ≤ H1.size
    rw [hlen]
    omega
  · show (σ.1.set a x).length ≤ 1000000
    rw [hlen]
    exact hml
theorem mm_copy_sim (hx : p.tables.exec = Jvm.exec) (hb : c.code = cc) (ho : mm_opq opq) (hr : mm_rho rho B) (hml : c.maxLocals = ls.size) (hts : ∀ w ∈ mm_T, w.before args s = true) {own : String} (hown : s.vm.findClass own = some m.cls) (hK : va_K D vwCl (mm_tys cA) s) (hR : mm_rel rho opq cA D B s σ H locs cells) {idx : Nat} {S r : List Value} {σ' : mm_H} (hO : mm_oldA P rho B s s.heap) (hSs : va_S (fun q => B ≤ q) s.heap H locs) (h : mm_copy P σ S = some (σ', r)) (hs24 : mm_sum r ≤ 24) (hd : decode cc pc = .ok (.invokestatic idx, 3)) (hE : Cond.methodLink own idx arraycopyName ∈ mm_T) (hE2 : Cond.native arraycopyName ∈ mm_T ∧ Cond.static arraycopyName ∈ mm_T ∧ Cond.initialized "java/lang/System" ∈ mm_T) (hfr : 1 ≤ R.frames) (hlo : 24 + (nativeFrameWords "java/lang/System" "arraycopy" 5 + 11) ≤ R.locals)
    (k : ∀ (H1 : Heap) (locs1 : List Loc), mm_rel rho opq cA D B s σ' H1 locs1 cells → W p l e R s m args below meth c H1 locs1 cells slots Q (F0 m (pc + 3) ls (r.map (mm_v rho opq)))) : W p l e R s m args below meth c H locs cells slots Q (F0 m pc ls (S.map (mm_v rho opq))) := by
  have hD := mm_w_D (opq := opq) (cA := cA) hr hR.2.2.2.2
  have hS := mm_S_self hR.2.1
  have hloc : ∀ r0 : List Value, mm_sum r0 ≤ 24 → ((r0.map (mm_v rho opq)).map fun v => v.category).sum + (nativeFrameWords "java/lang/System" "arraycopy" 5 + 11) ≤ R.locals := by
    intro r0 h0
    rw [mm_sum_v ho]
    omega
  unfold mm_copy at h
  split at h
  · split at h
    · cases h
    · rename_i h0
      split at h
      · rename_i h1 h2
        split at h
        · rename_i h3
          cases h
          exact va_copyi hx hb hml hown (hts _ hE) (hts _ hE2.1) (hts _ hE2.2.1) (hts _ hE2.2.2) hK hR.1 hD hS _ _ 0 0 (mm_w_at h1) (mm_w_at h2) rfl rfl rfl (fun z => h0 (Or.inl z)) (fun z => h0 (Or.inr (Or.inl z))) (fun z => h0 (Or.inr (Or.inr z))) h3.1 h3.2 (fun _ _ => rfl) hfr (hloc _ hs24) hd (fun H1 locs1 hP1 _ hS1 => mm_wrote hR (by rw [mm_w_set]; exact hP1) hS1 (k H1 locs1))
        · cases h
      · rename_i h1 h2
        split at h
        · rename_i h3
          cases h
          exact va_copyl hx hb hml hown (hts _ hE) (hts _ hE2.1) (hts _ hE2.2.1) (hts _ hE2.2.2) hK hR.1 hD hS _ _ 1 1 (mm_w_at h1) (mm_w_at h2) rfl rfl rfl (fun z => h0 (Or.inl z)) (fun z => h0 (Or.inr (Or.inl z))) (fun z => h0 (Or.inr (Or.inr z))) h3.1 h3.2 (fun _ _ => rfl) hfr (hloc _ hs24) hd (fun H1 locs1 hP1 _ hS1 => mm_wrote hR (by rw [mm_w_set]; exact hP1) hS1 (k H1 locs1))
        · cases h
      · rename_i h1 h2
        split at h
        · rename_i h3
          cases h
          exact va_copyi hx hb hml hown (hts _ hE) (hts _ hE2.1) (hts _ hE2.2.1) (hts _ hE2.2.2) hK hR.1 hD hS _ _ 2 2 (mm_w_at h1) (mm_w_at h2) rfl rfl rfl (fun z => h0 (Or.inl z)) (fun z => h0 (Or.inr (Or.inl z))) (fun z => h0 (Or.inr (Or.inr z))) h3.1 h3.2.1 (mm_byt_at h3.2.2) hfr (hloc _ hs24) hd (fun H1 locs1 hP1 _ hS1 => mm_wrote hR (by rw [mm_w_set]; exact hP1) hS1 (k H1 locs1))
        · cases h
      · rename_i h1 h2
        split at h
        · rename_i ho2
          split at h
          · rename_i h3
            cases h
            have hT := hO _ 2 _ ho2 h3.1
            refine vk_copyt hx hb hml hown (hts _ hE) (hts _ hE2.1) (hts _ hE2.2.1) (hts _ hE2.2.2) hK hR.1 hD hSs hT _ 2 (mm_w_at h2) rfl (fun z => h0 (Or.inl z)) (fun z => h0 (Or.inr (Or.inl z))) (fun z => h0 (Or.inr (Or.inr z))) h3.2.1 h3.2.2.1 (mm_byt_at h3.2.2.2) hfr (hloc _ hs24) hd (fun H1 locs1 hP1 _ hS1 => mm_wrote0 hr hR h2 (by rw [mm_w_set]; exact hP1) hS1 (k H1 locs1))
          · cases h
        · cases h
      · cases h
  · cases h
theorem mm_clone_sim (hx : p.tables.exec = Jvm.exec) (hb : c.code = cc) (ho : mm_opq opq) (hr : mm_rho rho B) (hml : c.maxLocals = ls.size) (hts : ∀ w ∈ mm_T, w.before args s = true) (hnest : ∀ w ∈ mm_T, mm_nest w = true → va_Nw w s) {own : String} (hown : s.vm.findClass own = some m.cls) (hK : va_K D vwCl (mm_tys cA) s) (hR : mm_rel rho opq cA D B s σ H locs cells) {idx i2 : Nat} {S r : List Value} {σ' : mm_H} (h : mm_clone σ S = some (σ', r)) (hs24 : mm_sum r ≤ 24) (hd : decode cc pc = .ok (.invokevirtual idx, 3)) (hd2 : decode cc (pc + 3) = .ok (.checkcast i2, 3)) (hE : ∀ w ∈ mm_clW own idx i2, w ∈ mm_T) (hfr : 1 ≤ R.frames) (hlo : 40 ≤ R.locals) (hcells : cells + 1 ≤ R.cells) (hslots : slots + (σ'.2.2.2 - σ.2.2.2) ≤ R.slots)
    (k : ∀ (H1 : Heap), mm_rel rho opq cA D B s σ' H1 locs (cells + 1) → W p l e R s m args below meth c H1 locs (cells + 1) (slots + (σ'.2.2.2 - σ.2.2.2)) Q (F0 m (pc + 6) ls (r.map (mm_v rho opq)))) : W p l e R s m args below meth c H locs cells slots Q (F0 m pc ls (S.map (mm_v rho opq))) := by
  have hD := mm_w_D (opq := opq) (cA := cA) hr hR.2.2.2.2
  unfold mm_clone at h
  split at h
  · rename_i a r0
    split at h
    · rename_i n f h1
      split at h
      · rename_i h0
        cases h
        have hsl : (mm_add σ (.inl (2, n, .inl f)) n).2.2.2 - σ.2.2.2 = n := by simp [mm_add]
        rw [hsl] at hslots k
        have hnm : s.vm.findClass "[B" = some (cA 2) := va_nm_byte (hK.2 2 _ (mm_tys_at cA (by omega))).2
        have e1 := hts _ (hE _ (List.mem_of_getElem? (i := 0) rfl))
        have e2 := hts _ (hE _ (List.mem_of_getElem? (i := 1) rfl))
        have e3 := hts _ (hE _ (List.mem_of_getElem? (i := 2) rfl))
        have e4 := hts _ (hE _ (List.mem_of_getElem? (i := 3) rfl))
        have e5 := hts _ (hE _ (List.mem_of_getElem? (i := 4) rfl))
        have e6 := hnest _ (hE _ (List.mem_of_getElem? (i := 5) rfl)) rfl
        have e7 := hts _ (hE _ (List.mem_of_getElem? (i := 6) rfl))
        have h25 : mm_sum r0 ≤ 24 := by
          have e8 : mm_sum (Value.ref σ.1.length :: r0) = 1 + mm_sum r0 := by simp [mm_sum, Value.category]
          omega
        have hfit : ∀ (i : Nat) (v : Value), (vp_cell (cA 2) (n, .inl f)).slots[i]? = some v → fits .byte v = true := by
          intro i v hv
          have hi : i < n := by
            have h9 := (Array.getElem?_eq_some_iff.mp hv).1
            rw [show (vp_cell (cA 2) (n, .inl f)).slots.size = n from arrV_size _ _ _] at h9
            exact h9
          rw [show (vp_cell (cA 2) (n, .inl f)).slots[i]? = some (Value.int (f i)) from arrV_read _ _ hi] at hv
          cases hv
          have h9 := mm_byt_at h0.2.2 i hi
          rw [Nat.zero_add] at h9
          exact h9
        refine va_clone hx hb hml hown e1 e2 e3 e4 e5 e6 hK hR.1 hD (mm_S_self hR.2.1) (fun q hq => Nat.le_trans (Nat.le_trans (Nat.le_add_right _ _) hR.2.2.2.1) hq) a 2 (mm_w_at h1) (mm_tys_at cA (by omega)) hnm hfit hfr (by rw [mm_sum_v ho]; omega) hcells hslots hd (fun q H1 hK1 hP1 hD1 hS1 => ?_)
        refine va_castA hx hb hown e7 hP1 σ.1.length (x := mm_a rho (n, .inl f)) (cA := cA 2) (by rw [List.getElem?_append_right (by rw [mm_w_len]; exact Nat.le_refl _), mm_w_len]; simp) hnm hd2 ?_
        refine mm_made (x := .inl (2, (n, .inl f))) (n := n) hr hR h0.1 h0.2.1 hP1 hD1 hS1 rfl (fun hq hR1 => ?_)
        rw [hq]
        exact k H1 hR1
      · cases h
    · cases h
  · cases h
theorem mm_obj_sim (hx : p.tables.exec = Jvm.exec) (hb : c.code = cc) (ho : mm_opq opq) (hml : c.maxLocals = ls.size) (hts : ∀ w ∈ mm_T, w.before args s = true) {own : String} (hown : s.vm.findClass own = some m.cls) {idx a : Nat} {r : List Value} (hs24 : mm_sum r ≤ 24) (hd : decode cc pc = .ok (.invokespecial idx, 3)) (hE : Cond.methodLink own idx objectInit ∈ mm_T) (hE2 : Cond.instanceMethod objectInit ∈ mm_T ∧ Cond.code objectInit ⟨#[0xb1]⟩ 1 none ∈ mm_T) (hfr : 1 ≤ R.frames) (hlo : 36 ≤ R.locals)
    (k : W p l e R s m args below meth c H locs cells slots Q (F0 m (pc + 3) ls (r.map (mm_v rho opq)))) : W p l e R s m args below meth c H locs cells slots Q (F0 m pc ls ((.ref a :: r).map (mm_v rho opq))) := by
  refine W.objInit hx hb hown (hts _ hE) (hts _ hE2.1) (hts _ hE2.2) rfl (by rw [hml]) rfl hd hfr ?_ k
  show 2 * 0 + ((r.map (mm_v rho opq)).map fun v => v.category).sum + 12 ≤ R.locals
  rw [mm_sum_v ho]
  omega
end MMM
end
section
/-- a String object's fields by number -/
def mm_sf (k : Nat) : String × String := match k with
  | 0 => ("value", "[B")
  | _ => ("coder", "B")
/-- the exceptions' classes -/
def mm_ex : List String := ["java/lang/IllegalArgumentException"]
/-- what a frame's start state is known to have: the classes, the words that are not good ones, the old arrays, the String constants, the statics, what a throw needs -/
def mm_env (P : mm_P) (stn : Nat → String × String × String) (sts : String → Nat → Option (Nat × String)) (rho : Nat → Nat) (opq : Nat → Value) (cA : Nat → ClassId) (D : va_G) (B : Nat) (U : State) : Prop :=
  va_K D vwCl (mm_tys cA) U ∧ (∀ w ∈ mm_T, mm_nest w = true → va_Nw w U) ∧ va_AO RX5 U ∧ mm_oldA P rho B U U.heap ∧
  (∀ (own : String) (i sid : Nat) (tx : String), sts own i = some (sid, tx) → vk_R own i tx (rho (2000000 + sid)) U) ∧
  (∀ (a k : Nat) (v : Value), P.2.1 a k = some v → va_OF "java/lang/String" (mm_sf k).1 (mm_sf k).2 (mm_v rho opq v) (rho a) (fun q => B ≤ q) U U.heap ∧ va_O "java/lang/String" (rho a) (fun q => B ≤ q) U U.heap) ∧
  (∀ (a : Nat) (v : Value), P.2.2.2.1 a = some v → va_Z (stn a).1 (stn a).2.1 (stn a).2.2 (mm_v rho opq v) (fun q => B ≤ q) U U.heap) ∧
  vx_Zq Bundle.tN "UNASSIGNED_STACK" Bundle.steD (fun q => B ≤ q) U U.heap ∧ vx_Zq Bundle.tN "SUPPRESSED_SENTINEL" Bundle.listD (fun q => B ≤ q) U U.heap ∧
  (∀ E ∈ mm_ex, ∀ E' ∈ mm_ex, E ≠ E' → va_Nc E E' U)
theorem mm_nest_to {w : Cond} (hw : mm_nest w = true) {s U : State} (hW : s.WarmedH U.vm) (h : va_Nw w s) : va_Nw w U := by
  cases w <;> simp only [mm_nest, reduceCtorEq, Bool.false_eq_true] at hw
  case fieldLinkNest => exact va_Nw.warmF hW h
  case methodLinkNest => exact va_Nw.warmM hW h
  case declares => exact va_Nw.warmD hW h
  case castable a b =>
    have h1 : (Cond.castable a b).before #[] (s.setVm U.vm) = true := by rw [Cond.castable_setVm hW.alike]; exact h
    exact va_tabs rfl (rfl : (s.setVm U.vm).vm = U.vm) h1
theorem mm_nest_onT {w : Cond} (hw : mm_nest w = true) : w.onTables = true := by
  cases w <;> first | rfl | (simp only [mm_nest, reduceCtorEq, Bool.false_eq_true] at hw)
theorem mm_env_to {P : mm_P} {stn : Nat → String × String × String} {sts : String → Nat → Option (Nat × String)} {rho : Nat → Nat} {opq : Nat → Value} {cA : Nat → ClassId} {D : va_G} {B : Nat} {s U : State} {H : Heap} {locs : List Loc} (h : mm_env P stn sts rho opq cA D B s) (hS : va_S (fun q => B ≤ q) s.heap H locs) (hU : U.heap = H) (hW : s.WarmedH U.vm) : mm_env P stn sts rho opq cA D B U := by
  obtain ⟨h1, h2, h3, h4, h5, h6, h7, h8, h9, h10⟩ := h
  subst hU
  have hA := hW.alike
  refine ⟨va_K.moved hA h1, fun w hw hn => mm_nest_to hn hW (h2 w hw hn), va_AO.moved hA h3, fun a t x he hl => va_T.moved hA ((h4 a t x he hl).kept hS.2.1), fun own i sid tx he => vk_R.warm hW (h5 own i sid tx he), fun a k v he => ⟨va_OF.moved hA ((h6 a k v he).1.kept hS.2.1), va_O.moved hA ((h6 a k v he).2.kept hS.2.1)⟩, fun a v he => va_Z.moved hA ((h7 a v he).kept hS.2.1), vx_Zq.moved hA (h8.kept hS.2.1), vx_Zq.moved hA (h9.kept hS.2.1), fun E hE E' hE' hn => va_Nc.moved hA (h10 E hE E' hE' hn)⟩
theorem mm_env_blind {P : mm_P} {stn : Nat → String × String × String} {sts : String → Nat → Option (Nat × String)} {rho : Nat → Nat} {opq : Nat → Value} {cA : Nat → ClassId} {D : va_G} {B : Nat} {U : State} (g : JFrame) (mk : MethodId) (a : Array Value) (h : mm_env P stn sts rho opq cA D B U) : mm_env P stn sts rho opq cA D B (U.calling g mk a) :=
  mm_env_to (locs := []) h va_S.rf rfl (State.WarmedH.refl U)
/-- the words of mm_T, in a frame -/
theorem mm_words {args : Array Value} {s : State} (h1 : ∀ w ∈ lx_tbl.filter goodWord, w.before args s = true) (h2 : ∀ w ∈ mm_T, mm_nest w = true → va_Nw w s) : ∀ w ∈ mm_T, w.before args s = true := by
  intro w hw
  cases hn : mm_nest w with
  | true => exact va_Nw.use (mm_nest_onT hn) (h2 w hw hn)
  | false =>
    obtain ⟨g1, g2⟩ := List.mem_filter.mp hw
    rw [hn, Bool.or_false] at g2
    exact h1 w (List.mem_filter.mpr ⟨g1, g2⟩)
/-- a constant -/
def mm_kE (own : String) (cc : ByteArray) (pc len : Nat) (v : Value) : Prop :=
  (∃ (idx : Nat) (x : Int32), v = .int x ∧ Cond.constant own idx x ∈ mm_T ∧ ((decode cc pc = .ok (.ldc idx, 2) ∧ len = 2) ∨ (decode cc pc = .ok (.ldc_w idx, 3) ∧ len = 3))) ∨
  (∃ (idx : Nat) (x : Int64), v = .long x ∧ Cond.constantLong own idx x ∈ mm_T ∧ decode cc pc = .ok (.ldc2_w idx, 3) ∧ len = 3) ∨
  (∃ (idx : Nat) (x : UInt64), v = .double x ∧ Cond.constantDouble own idx x ∈ mm_T ∧ decode cc pc = .ok (.ldc2_w idx, 3) ∧ len = 3)
section MMK
variable {p : Program} {l : Launch} {e : Env} {R : Room} {s : State} {m : MethodId} {args : Array Value} {below : List Frame} {meth : Method} {c : Code} {H : Heap} {locs : List Loc} {cells slots : Nat} {Q : State → Prop}
variable {cc : ByteArray} {pc len : Nat} {ls : Array Slot} {rho : Nat → Nat} {opq : Nat → Value} {cA : Nat → ClassId} {D : va_G} {B : Nat} {P : mm_P} {σ : mm_H} {stn : Nat → String × String × String} {sts : String → Nat → Option (Nat × String)} {own : String}
theorem mm_kon_sim (hx : p.tables.exec = Jvm.exec) (hb : c.code = cc) (hts : ∀ w ∈ mm_T, w.before args s = true) (hown : s.vm.findClass own = some m.cls) {v : Value} {S : List Value} (hE : mm_kE own cc pc len v)
    (k : W p l e R s m args below meth c H locs cells slots Q (F0 m (pc + len) ls ((v :: S).map (mm_v rho opq)))) : W p l e R s m args below meth c H locs cells slots Q (F0 m pc ls (S.map (mm_v rho opq))) := by
  rcases hE with ⟨idx, x, rfl, h1, ⟨h2, rfl⟩ | ⟨h2, rfl⟩⟩ | ⟨idx, x, rfl, h1, h2, rfl⟩ | ⟨idx, x, rfl, h1, h2, rfl⟩
  · exact lv_ldc hx hb hown (hts _ h1) h2 k
  · exact lv_ldcw hx hb hown (hts _ h1) h2 k
  · exact lv_ldc2 hx hb hown (hts _ h1) h2 k
  · exact lv_ldc2d hx hb hown (hts _ h1) h2 k
theorem mm_str_sim (hx : p.tables.exec = Jvm.exec) (hb : c.code = cc) (hown : s.vm.findClass own = some m.cls) (hEnv : mm_env P stn sts rho opq cA D B s) {idx sid : Nat} {tx : String} {S : List Value} (hs : sts own idx = some (sid, tx)) (hd : (decode cc pc = .ok (.ldc idx, 2) ∧ len = 2) ∨ (decode cc pc = .ok (.ldc_w idx, 3) ∧ len = 3))
    (k : W p l e R s m args below meth c H locs cells slots Q (F0 m (pc + len) ls ((.ref (2000000 + sid) :: S).map (mm_v rho opq)))) : W p l e R s m args below meth c H locs cells slots Q (F0 m pc ls (S.map (mm_v rho opq))) := by
  have hZ := hEnv.2.2.2.2.1 own idx sid tx hs
  rcases hd with ⟨hd, rfl⟩ | ⟨hd, rfl⟩
  · exact va_ldcS hx hb hown hZ hd k
  · intro T hT X
    obtain ⟨t, a1, b1⟩ := k T hT X
    exact ⟨t, X.ldcStringW hx hown (text := tx) (a := rho (2000000 + sid)) hZ.1 hZ.2 (g := F0 m pc ls (S.map (mm_v rho opq))) rfl (by rw [hb]; exact hd) t a1, b1⟩
theorem mm_sta_sim (hx : p.tables.exec = Jvm.exec) (hb : c.code = cc) (hts : ∀ w ∈ mm_T, w.before args s = true) (hown : s.vm.findClass own = some m.cls) (hEnv : mm_env P stn sts rho opq cA D B s) (hS : va_S (fun q => B ≤ q) s.heap H locs) {idx a : Nat} {v : Value} {S : List Value} (hv : P.2.2.2.1 a = some v) (hd : decode cc pc = .ok (.getstatic idx, 3)) (hE : Cond.fieldLink own idx (stn a).1 (stn a).2.1 (stn a).2.2 ∈ mm_T)
    (k : W p l e R s m args below meth c H locs cells slots Q (F0 m (pc + 3) ls ((v :: S).map (mm_v rho opq)))) : W p l e R s m args below meth c H locs cells slots Q (F0 m pc ls (S.map (mm_v rho opq))) :=
  va_gets hx hb (hEnv.2.2.2.2.2.2.1 a v hv) hS hown (hts _ hE) (fun _ h9 => h9) hd k
theorem mm_getO_sim (hx : p.tables.exec = Jvm.exec) (hb : c.code = cc) (hts : ∀ w ∈ mm_T, w.before args s = true) (hown : s.vm.findClass own = some m.cls) (hEnv : mm_env P stn sts rho opq cA D B s) (hS : va_S (fun q => B ≤ q) s.heap H locs) {idx j : Nat} {S r : List Value} (hP : va_P D vwCl (mm_w rho opq cA σ.1) H) (h : mm_getO P σ j S = some r) (hj : j < 2) (hd : decode cc pc = .ok (.getfield idx, 3)) (hE : Cond.fieldLink own idx "java/lang/String" (mm_sf j).1 (mm_sf j).2 ∈ mm_T)
    (k : W p l e R s m args below meth c H locs cells slots Q (F0 m (pc + 3) ls (r.map (mm_v rho opq)))) : W p l e R s m args below meth c H locs cells slots Q (F0 m pc ls (S.map (mm_v rho opq))) := by
  unfold mm_getO at h
  split at h
  · split at h
    · refine mm_getf_sim hx hb hts hown hEnv.1 hP h hd ⟨RJ0, TJ0, 4, rfl, by omega, Or.inl ?_⟩ k
      rcases (show j = 0 ∨ j = 1 by omega) with rfl | rfl <;> exact hE
    · split at h
      · rename_i h1
        cases h
        exact vk_getf hx hb (hEnv.2.2.2.2.2.1 _ _ _ h1).1 hS hown (hts _ hE) (fun _ h9 => h9) hd k
      · cases h
  · cases h
/-- a return instruction, its method's type -/
def mm_rE (a : Nat) (i : Instr) (ret : Option FieldType) : Prop := match i with
  | .ireturn => ret = some (mm_rt a)
  | .lreturn => ret = some .long
  | .dreturn => ret = some .double
  | .areturn => (∃ n, ret = some (.object n)) ∨ ∃ n, ret = some (.array n)
  | .return_ => ret = none
  | _ => False
theorem mm_ret_sim {Qc : Array Value → State → Outcome → State → Prop} {free : Addr → Prop} {rt : Option FieldType} (hx : p.tables.exec = Jvm.exec) (hb : c.code = cc) (hr : meth.sig.returnType = rt) (hlocks : meth.locks = false) {a : Nat} {i : Instr} {S : List Value} {o : Option Value} (h : mm_ret a i S = some o) (hd : decode cc pc = .ok (i, len)) (hn : len = mm_len i) (hE : mm_rE a i rt)
    (hq : ∀ t : State, t.heap = H → s.WarmedH t.vm → Qc args s (.returned (o.map (mm_v rho opq))) t) (hf : ∀ q ∈ locs, free q.base) : W p l e R s m args below meth c H locs cells slots (MQ below Qc args s cells slots free) (F0 m pc ls (S.map (mm_v rho opq))) := by
  subst hn
  cases i <;> simp only [mm_ret, reduceCtorEq] at h
  case ireturn =>
    split at h
    · split at h
      · rename_i h0
        cases h
        have hn : ∀ v : Int32, a = 0 ∨ narrow (mm_rt a) (.int v) = .int v → narrow (mm_rt a) (.int v) = .int v := by
          intro v hv
          rcases hv with rfl | hv
          · rfl
          · exact hv
        exact W.zret hx hb (hr.trans hE) (hn _ h0) hq hf hd
      · cases h
    · cases h
  case lreturn =>
    split at h
    · cases h
      exact W.lret hx hb (hr.trans hE) hq hf hd
    · cases h
  case dreturn =>
    split at h
    · cases h
      exact W.dret hx hb (hr.trans hE) hq hf hd
    · cases h
  case areturn =>
    rcases hE with ⟨n, hE⟩ | ⟨n, hE⟩
    · split at h
      · cases h
        exact W.aret hx hb (hr.trans hE) (Or.inl ⟨n, rfl⟩) (Or.inr ⟨_, rfl⟩) hq hf hd
      · cases h
        exact W.aret hx hb (hr.trans hE) (Or.inl ⟨n, rfl⟩) (Or.inl rfl) hq hf hd
      · cases h
    · split at h
      · cases h
        exact W.aret hx hb (hr.trans hE) (Or.inr ⟨n, rfl⟩) (Or.inr ⟨_, rfl⟩) hq hf hd
      · cases h
        exact W.aret hx hb (hr.trans hE) (Or.inr ⟨n, rfl⟩) (Or.inl rfl) hq hf hd
      · cases h
  case return_ =>
    split at h
    · cases h
      exact W.vret hx hb (hr.trans hE) hq hf hd
    · cases h
end MMK
end
section
/-! how the counts of the mini machine's heap grow -/
def mm_mono (σ σ' : mm_H) : Prop := σ.2.2.1 ≤ σ'.2.2.1 ∧ σ.2.2.2 ≤ σ'.2.2.2 ∧ (σ'.2.1 = true → σ.2.1 = true ∧ σ'.2.2.1 + σ.1.length = σ.2.2.1 + σ'.1.length)
theorem mm_mono_rf (σ : mm_H) : mm_mono σ σ := ⟨Nat.le_refl _, Nat.le_refl _, fun h => ⟨h, rfl⟩⟩
theorem mm_mono_tr {a b c : mm_H} (h : mm_mono a b) (h2 : mm_mono b c) : mm_mono a c := by
  refine ⟨Nat.le_trans h.1 h2.1, Nat.le_trans h.2.1 h2.2.1, fun hc => ?_⟩
  obtain ⟨g1, g2⟩ := h2.2.2 hc
  obtain ⟨g3, g4⟩ := h.2.2 g1
  exact ⟨g3, by omega⟩
theorem mm_mono_set (σ : mm_H) (a : Nat) (x : mm_C) : mm_mono σ (mm_set σ a x) := by
  refine ⟨Nat.le_refl _, Nat.le_refl _, fun h => ⟨h, ?_⟩⟩
  simp [mm_set]
theorem mm_mono_add (σ : mm_H) (x : mm_C) (n : Nat) : mm_mono σ (mm_add σ x n) := by
  refine ⟨Nat.le_succ _, Nat.le_add_right _ _, fun h => ⟨h, ?_⟩⟩
  show σ.2.2.1 + 1 + σ.1.length = σ.2.2.1 + (σ.1 ++ [x]).length
  rw [List.length_append, List.length_singleton]
  omega
theorem mm_mono_thr (σ : mm_H) : mm_mono σ (σ.1, false, σ.2.2.1 + 1, σ.2.2.2 + 6) := ⟨Nat.le_succ _, Nat.le_add_right _ _, fun h => nomatch h⟩
theorem mm_awr_mono {i : Instr} {σ σ' : mm_H} {S r : List Value} (h : mm_awr i σ S = some (σ', r)) : mm_mono σ σ' := by
  cases i <;> simp only [mm_awr, reduceCtorEq] at h
  all_goals
    repeat' (first | cases h | split at h)
    all_goals exact mm_mono_set _ _ _
theorem mm_putf_mono {P : mm_P} {σ σ' : mm_H} {ci k : Nat} {S r : List Value} (h : mm_putf P σ ci k S = some (σ', r)) : mm_mono σ σ' := by
  unfold mm_putf at h
  repeat' (first | cases h | split at h)
  all_goals exact mm_mono_set _ _ _
theorem mm_new_mono {P : mm_P} {σ σ' : mm_H} {ci : Nat} {v : Value} (h : mm_new P σ ci = some (σ', v)) : mm_mono σ σ' := by
  unfold mm_new at h
  repeat' (first | cases h | split at h)
  all_goals exact mm_mono_add _ _ _
theorem mm_newa_mono {σ σ' : mm_H} {t : Nat} {S r : List Value} (h : mm_newa σ t S = some (σ', r)) : mm_mono σ σ' := by
  unfold mm_newa at h
  repeat' (first | cases h | split at h)
  all_goals exact mm_mono_add _ _ _
theorem mm_copy_mono {P : mm_P} {σ σ' : mm_H} {S r : List Value} (h : mm_copy P σ S = some (σ', r)) : mm_mono σ σ' := by
  unfold mm_copy at h
  repeat' (first | cases h | split at h)
  all_goals exact mm_mono_set _ _ _
theorem mm_clone_mono {σ σ' : mm_H} {S r : List Value} (h : mm_clone σ S = some (σ', r)) : mm_mono σ σ' := by
  unfold mm_clone at h
  repeat' (first | cases h | split at h)
  all_goals exact mm_mono_add _ _ _
def mm_nx (n : mm_N) : mm_H := match n with
  | .inl q => q.2.2.2
  | .inr r => r.2
theorem mm_back_eq {hs : List (String × Nat × Nat × Nat)} {pc : Nat} {L : mm_L} {rest : List Value} {r : mm_R} {n : mm_N} (h : mm_back hs pc L rest r = some n) : mm_nx n = r.2 := by
  unfold mm_back at h
  repeat' (first | cases h | split at h)
  all_goals rfl
theorem mm_step_mono {P : mm_P} {call : Nat → List Value → mm_H → Option mm_R} (hc : ∀ y A σ r, call y A σ = some r → mm_mono σ r.2) {op : mm_Op} {pc len : Nat} {L : mm_L} {S : List Value} {σ : mm_H} {n : mm_N} (h : mm_step P call op pc len L S σ = some n) : mm_mono σ (mm_nx n) := by
  unfold mm_step at h
  split at h
  case h_16 =>
    split at h
    · split at h
      · split at h
        · rename_i hcall
          rw [mm_back_eq h]
          exact hc _ _ _ _ hcall
        · cases h
      · cases h
    · cases h
  case h_9 =>
    split at h
    · rename_i h1
      cases h
      exact mm_putf_mono h1
    · cases h
  case h_12 =>
    split at h
    · rename_i h1
      cases h
      exact mm_new_mono h1
    · cases h
  case h_13 =>
    split at h
    · rename_i h1
      cases h
      exact mm_newa_mono h1
    · cases h
  case h_14 =>
    split at h
    · rename_i h1
      cases h
      exact mm_awr_mono h1
    · cases h
  case h_17 =>
    split at h
    · split at h
      · cases h
        exact mm_mono_thr _
      · cases h
    · cases h
  case h_18 =>
    split at h
    · rename_i h1
      split at h
      · cases h
        exact mm_copy_mono h1
      · cases h
    · cases h
  case h_21 =>
    split at h
    · rename_i h1
      split at h
      · cases h
        exact mm_clone_mono h1
      · cases h
    · cases h
  all_goals
    repeat' (first | cases h | split at h)
    all_goals exact mm_mono_rf _
theorem mm_go_mono {P : mm_P} {call : Nat → List Value → mm_H → Option mm_R} (hc : ∀ y A σ r, call y A σ = some r → mm_mono σ r.2) {code : mm_Code} : ∀ {n pc : Nat} {L : mm_L} {S : List Value} {σ : mm_H} {r : mm_R}, mm_go P call code n pc L S σ = some r → mm_mono σ r.2 := by
  intro n
  induction n with
  | zero => intro pc L S σ r h; cases h
  | succ n ih =>
    intro pc L S σ r h
    simp only [mm_go] at h
    split at h
    · split at h
      · rename_i h1
        have h2 := mm_step_mono hc h1
        exact mm_mono_tr h2 (ih h)
      · rename_i h1
        cases h
        exact mm_step_mono hc h1
      · cases h
    · cases h
theorem mm_run_mono {P : mm_P} {M : Nat → Option (mm_Code × Nat)} {N : Nat} : ∀ {d y : Nat} {A : List Value} {σ : mm_H} {r : mm_R}, mm_run P M N d y A σ = some r → mm_mono σ r.2 := by
  intro d
  induction d with
  | zero => intro y A σ r h; cases h
  | succ d ih =>
    intro y A σ r h
    simp only [mm_run] at h
    split at h
    · split at h
      · exact mm_go_mono (fun y A σ r h => ih h) h
      · cases h
    · cases h
end
section
/-! a method's contract: what the mini machine's run gives, the machine does -/
/-- code, number of locals, name, bytes, type, handlers -/
abbrev mm_M : Type := mm_Code × Nat × MethodName × ByteArray × Option FieldType × List (Nat × Nat × Nat × Nat)
def mm_cw (t : mm_M) : Cond := match t.2.2.2.2.2 with
  | [] => Cond.code t.2.2.1 t.2.2.2.1 t.2.1 t.2.2.2.2.1
  | hh => Cond.codeWith t.2.2.1 t.2.2.2.1 t.2.1 t.2.2.2.2.1 hh
def mm_gw : List Cond := lx_tbl.filter goodWord
def mm_rm (d mc ms : Nat) : Room := { frames := d + 6, cells := mc, slots := ms, locals := 65 * d + 150 }
def mm_pre (rho : Nat → Nat) (opq : Nat → Value) (cA : Nat → ClassId) (D : va_G) (B : Nat) (σ : mm_H) (H : Heap) : Prop := va_P D vwCl (mm_w rho opq cA σ.1) H ∧ (σ.2.1 = true → H.size = B + σ.1.length) ∧ B + σ.1.length ≤ H.size ∧ σ.1.length ≤ 1000000
def mm_Pc (P : mm_P) (stn : Nat → String × String × String) (sts : String → Nat → Option (Nat × String)) (rho : Nat → Nat) (opq : Nat → Value) (cA : Nat → ClassId) (D : va_G) (B : Nat) (A : List Value) (σ : mm_H) : Array Value → State → Prop := va_Pc (A.map (mm_v rho opq)) (fun U => mm_env P stn sts rho opq cA D B U ∧ mm_pre rho opq cA D B σ U.heap)
def mm_Qc (rho : Nat → Nat) (opq : Nat → Value) (cA : Nat → ClassId) (D : va_G) (B : Nat) (res : mm_R) : Array Value → State → Outcome → State → Prop := fun _ st oc t => (∃ o, res.1 = .inl o ∧ oc = .returned (o.map (mm_v rho opq))) ∧ mm_pre rho opq cA D B res.2 t.heap ∧ va_F (fun q => B ≤ q) st t
def mm_XC (rho : Nat → Nat) (opq : Nat → Value) (cA : Nat → ClassId) (D : va_G) (B : Nat) (res : mm_R) : String → State → State → Prop := fun E st t => res.1 = .inr E ∧ mm_pre rho opq cA D B res.2 t.heap ∧ va_F (fun q => B ≤ q) st t
def mm_Con (l : Launch) (P : mm_P) (stn : Nat → String × String × String) (sts : String → Nat → Option (Nat × String)) (rho : Nat → Nat) (opq : Nat → Value) (cA : Nat → ClassId) (D : va_G) (B : Nat) (t : mm_M) (d : Nat) (A : List Value) (σ : mm_H) (res : mm_R) : Prop :=
  vx_Met l t.2.2.1 (mm_cw t :: mm_gw) (mm_rm d (res.2.2.2.1 - σ.2.2.1) (res.2.2.2.2 - σ.2.2.2)) (mm_Pc P stn sts rho opq cA D B A σ) (mm_Qc rho opq cA D B res) (mm_XC rho opq cA D B res) (res.2.2.2.1 - σ.2.2.1) (res.2.2.2.2 - σ.2.2.2) (fun q => B ≤ q)
theorem mm_Pc_blind {P : mm_P} {stn : Nat → String × String × String} {sts : String → Nat → Option (Nat × String)} {rho : Nat → Nat} {opq : Nat → Value} {cA : Nat → ClassId} {D : va_G} {B : Nat} {A : List Value} {σ : mm_H} : FrameBlind (mm_Pc P stn sts rho opq cA D B A σ) :=
  fun a _ g mk h => ⟨h.1, mm_env_blind g mk a h.2.1, h.2.2⟩
theorem mm_gw_T {w : Cond} (h : w ∈ mm_gw) : w ∈ mm_T := by
  obtain ⟨h1, h2⟩ := List.mem_filter.mp h
  exact List.mem_filter.mpr ⟨h1, by show (goodWord w || mm_nest w) = true; rw [h2]; rfl⟩
theorem mm_T_ot {w : Cond} (h : w ∈ mm_T) : vx_ot w = true := by
  obtain ⟨h1, h2⟩ := List.mem_filter.mp h
  have h3 : (goodWord w || mm_nest w) = true := h2
  rw [Bool.or_eq_true] at h3
  show (w.onTables || goodWord w) = true
  rw [Bool.or_eq_true]
  rcases h3 with h3 | h3
  · exact Or.inr h3
  · exact Or.inl (mm_nest_onT h3)
/-- AbstractStringBuilder.length, which StringBuilder has again -/
def mm_zn : MethodName := ⟨RJ5, "length", "()I"⟩
theorem mm_znW : Cond.sameMethod RJ5 RJ5 "length" "()I" ∈ mm_T ∧ Cond.instanceMethod mm_zn ∈ mm_T ∧ ∃ b m r, Cond.code mm_zn b m r ∈ mm_T := ⟨by decide +kernel, by decide +kernel, prog_14_method_6_code, 1, some .int, by decide +kernel⟩
/-- a call: what is called, and how -/
def mm_iE (MT : Nat → Option mm_M) (own : String) (cc : ByteArray) (pc a b c d : Nat) : Prop := ∃ (t : mm_M) (idx n : Nat), MT a = some t ∧ mm_cw t ∈ mm_gw ∧ t.2.1 ≤ 30 ∧ Cond.initialized t.2.2.1.cls ∈ mm_T ∧ (t.2.2.1.cls ≠ "java/lang/invoke/MethodHandle" ∧ t.2.2.1.cls ≠ "java/lang/invoke/VarHandle") ∧ (parseMethodDescriptor t.2.2.1.desc).map (fun d => d.parameters.length) = some n ∧
  ((d = 0 ∧ b = n + 1 ∧ decode cc pc = .ok (.invokevirtual idx, 3) ∧ Cond.methodLink own idx t.2.2.1 ∈ mm_T ∧ Cond.instanceMethod t.2.2.1 ∈ mm_T ∧ ∃ C : String, Cond.selects C t.2.2.1 t.2.2.1 ∈ mm_T ∧ ((c = 100 ∧ C = "java/lang/String") ∨ (c ≠ 100 ∧ ∃ (T : u_T) (N : Nat), vwCl[c]? = some (C, T, N)))) ∨
   (d = 1 ∧ b = n ∧ decode cc pc = .ok (.invokestatic idx, 3) ∧ Cond.static t.2.2.1 ∈ mm_T ∧ (Cond.methodLink own idx t.2.2.1 ∈ mm_T ∨ (t.2.2.2.2.2 = [] ∧ ∃ host, Cond.methodLinkNest own idx t.2.2.1 host ∈ mm_T))) ∨
   (d = 2 ∧ b = n + 1 ∧ decode cc pc = .ok (.invokespecial idx, 3) ∧ t.2.2.1.name = "<init>" ∧ t.2.2.2.2.1 = none ∧ t.2.2.2.2.2 = [] ∧ Cond.instanceMethod t.2.2.1 ∈ mm_T ∧ (Cond.methodLink own idx t.2.2.1 ∈ mm_T ∨ ∃ host, Cond.methodLinkNest own idx t.2.2.1 host ∈ mm_T)) ∨
   (d = 3 ∧ b = n + 1 ∧ decode cc pc = .ok (.invokevirtual idx, 3) ∧ t.2.2.2.2.2 = [] ∧ Cond.methodLink own idx mm_zn ∈ mm_T ∧ Cond.instanceMethod t.2.2.1 ∈ mm_T ∧ Cond.selects RJ4 mm_zn t.2.2.1 ∈ mm_T ∧ c = 12 ∧ n = 0) ∨
   (d = 4 ∧ b = n + 1 ∧ decode cc pc = .ok (.invokespecial idx, 3) ∧ t.2.2.1.name ≠ "<init>" ∧ t.2.2.2.2.2 = [] ∧ Cond.instanceMethod t.2.2.1 ∈ mm_T ∧ Cond.methodLink own idx t.2.2.1 ∈ mm_T ∧ Cond.sameMethod t.2.2.1.cls t.2.2.1.cls t.2.2.1.name t.2.2.1.desc ∈ mm_T ∧ Cond.superclass own t.2.2.1.cls ∈ mm_T ∧ c = 12))
theorem mm_take_inv {n : Nat} {S A r : List Value} (h : mm_take n S = some (A, r)) : S = A.reverse ++ r ∧ A.length = n ∧ mm_sum r ≤ 24 := by
  unfold mm_take at h
  split at h
  · rename_i h0
    cases h
    refine ⟨by rw [List.reverse_reverse, List.take_append_drop], by rw [List.length_reverse, List.length_take]; omega, h0.2⟩
  · cases h
section MMC
variable {p : Program} {l : Launch} {e : Env} {R : Room} {s : State} {m : MethodId} {args : Array Value} {below : List Frame} {meth : Method} {c : Code} {H : Heap} {locs : List Loc} {cells slots : Nat} {Q : State → Prop}
variable {cc : ByteArray} {pc len : Nat} {ls : Array Slot} {rho : Nat → Nat} {opq : Nat → Value} {cA : Nat → ClassId} {D : va_G} {B : Nat} {P : mm_P} {σ : mm_H} {stn : Nat → String × String × String} {sts : String → Nat → Option (Nat × String)} {own : String}
theorem mm_vback {t : mm_M} {d : Nat} {A : List Value} {res : mm_R} (hM : mm_Con l P stn sts rho opq cA D B t d A σ res) (hfr : d + 7 ≤ R.frames) (hlo : 65 * (d + 1) + 150 ≤ R.locals) (hnL : t.2.1 ≤ 30) (hts : ∀ w ∈ mm_T, w.before args s = true) (hcw : mm_cw t ∈ mm_gw) (hini : Cond.initialized t.2.2.1.cls ∈ mm_T) :
    vx_Back l R p e below s args t.2.2.1 3 24 (PreOf R (res.2.2.2.1 - σ.2.2.1) (res.2.2.2.2 - σ.2.2.2) (mm_Pc P stn sts rho opq cA D B A σ)) (PostOf (mm_Qc rho opq cA D B res) (res.2.2.2.1 - σ.2.2.1) (res.2.2.2.2 - σ.2.2.2) (fun q => B ≤ q)) (vx_Post (mm_XC rho opq cA D B res) (res.2.2.2.1 - σ.2.2.1) (res.2.2.2.2 - σ.2.2.2) (fun q => B ≤ q)) := by
  have hws : ∀ w ∈ mm_cw t :: mm_gw, ∀ (a' : Array Value) (U : State), s.WarmedH U.vm → w.before a' U = true := by
    intro w hw a' U hW
    have hw2 : w ∈ mm_gw := (List.mem_cons.mp hw).elim (fun q => by rw [q]; exact hcw) id
    exact word_at hW (good_of_word (List.mem_filter.mp hw2).2) (hts _ (mm_gw_T hw2))
  have hin : ∀ (a' : Array Value) (U : State), s.WarmedH U.vm → (Cond.initialized t.2.2.1.cls).before a' U = true := fun a' U hW => word_at hW (Or.inl (by first | rfl | simp [Cond.onTables, Cond.keeps, Cond.steady])) (hts _ hini)
  obtain ⟨code, nL, Y, bytes, ret, hh⟩ := t
  have hl1 : 24 + (nL + 11) + (65 * d + 150) ≤ R.locals := by
    have h9 : nL ≤ 30 := hnL
    omega
  cases hh with
  | nil => exact vx_back (bytes := bytes) (maxL := nL) (ret := ret) hM mm_Pc_blind rfl rfl hfr hl1 hws List.mem_cons_self hin
  | cons x y => exact vx_backW (hh := x :: y) (bytes := bytes) (maxL := nL) (ret := ret) hM mm_Pc_blind rfl rfl hfr hl1 hws List.mem_cons_self hin
/-- a call's two ends -/
def mm_cr (p : Program) (l : Launch) (e : Env) (R : Room) (s : State) (m : MethodId) (args : Array Value) (below : List Frame) (meth : Method) (c : Code) (locs : List Loc) (cells slots : Nat) (g : JFrame) (rest : List Value) (a : Array Value) (Post : Pt → Array Value → Option Value → Pt → Prop) (PostX : Pt → Array Value → Addr → Pt → Prop) (T : State) : Prop :=
  (∃ (v : Option Value) (vm₁ : Vm) (B : Pt), s.WarmedH vm₁ ∧ Stand p l e R s m args below meth c B.U B.locs B.cells B.slots ∧ Post ⟨T.setVm vm₁, locs, cells, slots⟩ a v B ∧
    ∀ target, Steps p.tables e below (B.U.setTop { g with pc := g.pc + 3, stack := v.toList ++ rest }) target → Steps p.tables e below (T.setTop g) target) ∨
  (∃ (q : Addr) (vm₁ : Vm) (B : Pt), s.WarmedH vm₁ ∧ Stand p l e R s m args below meth c B.U B.locs B.cells B.slots ∧ PostX ⟨T.setVm vm₁, locs, cells, slots⟩ a q B ∧
    Steps p.tables e below (T.setTop g) ((B.U.setTop { g with stack := rest }).pushFrame (.throwing q)))
theorem mm_run_of {mc ms : Nat} {Qc : Array Value → State → Outcome → State → Prop} {XC : String → State → State → Prop} {free : Addr → Prop} {g : JFrame} {rest : List Value} {a : Array Value} (h : ∀ T : State, T.heap = H → Stand p l e R s m args below meth c T locs cells slots → mm_cr p l e R s m args below meth c locs cells slots g rest a (PostOf Qc mc ms free) (vx_Post XC mc ms free) T) :
    vx_Run p l e R s m args below meth c H locs cells slots mc ms g rest (Qc a) XC free := by
  intro T hT X
  rcases h T hT X with ⟨v, vm₁, ⟨U', l2, c2, s2⟩, hW₁, X', ⟨g', mk, t, L, e1, e2, hq, h1, hL, h2, h3⟩, st⟩ | ⟨q, vm₁, ⟨U', l2, c2, s2⟩, hW₁, X', ⟨g', mk, t, L, E, ce, e1, e2, hq, hce, hcv, hcl, h1, hL, h2, h3⟩, st⟩
  · dsimp only [Pt.U, Pt.locs, Pt.cells, Pt.slots] at X' e1 e2 h1 h2 h3 st
    subst h1; subst h2; subst h3
    exact Or.inl ⟨v, (T.setVm vm₁).calling g' mk a, t, U', L, hT, X', hL, e1, e2, hq, st⟩
  · dsimp only [Pt.U, Pt.locs, Pt.cells, Pt.slots] at X' e1 e2 h1 h2 h3 st hcl
    subst h1; subst h2; subst h3
    exact Or.inr ⟨q, (T.setVm vm₁).calling g' mk a, t, U', L, E, ce, hT, X', hL, e1, e2, hq, hce, hcv, vx_cls hW₁ hcl, st⟩
/-- the three kinds of call -/
theorem mm_inv_run {MT : Nat → Option mm_M} {a b ci d9 : Nat} {S A r : List Value} {res : mm_R} {d : Nat} (hx : p.tables.exec = Jvm.exec) (hb : c.code = cc) (ho : mm_opq opq) (hts : ∀ w ∈ mm_T, w.before args s = true) (hown : s.vm.findClass own = some m.cls) (hEnv : mm_env P stn sts rho opq cA D B s) (hml : c.maxLocals = ls.size) (hfr : d + 7 ≤ R.frames) (hlo : 65 * (d + 1) + 150 ≤ R.locals)
    (hR : mm_rel rho opq cA D B s σ H locs cells) (hE : mm_iE MT own cc pc a b ci d9) (ht : mm_take b S = some (A, r)) (hi : d9 = 1 ∨ mm_isr P σ ci A = true) (hM : ∀ t, MT a = some t → mm_Con l P stn sts rho opq cA D B t d A σ res) (hcells : cells + (res.2.2.2.1 - σ.2.2.1) ≤ R.cells) (hslots : slots + (res.2.2.2.2 - σ.2.2.2) ≤ R.slots) :
    vx_Run p l e R s m args below meth c H locs cells slots (res.2.2.2.1 - σ.2.2.1) (res.2.2.2.2 - σ.2.2.2) (F0 m pc ls (S.map (mm_v rho opq))) (r.map (mm_v rho opq)) (mm_Qc rho opq cA D B res (A.map (mm_v rho opq)).toArray) (mm_XC rho opq cA D B res) (fun q => B ≤ q) := by
  obtain ⟨t, idx, n, e1, e2, e3, e4, e5, e6, e7⟩ := hE
  obtain ⟨f1, f2, f3⟩ := mm_take_inv ht
  have hK := mm_vback (p := p) (e := e) (below := below) (hM t e1) hfr hlo e3 hts e2 e4
  have hmon : 2 * (F0 m pc ls (S.map (mm_v rho opq))).monitorRoom + ((r.map (mm_v rho opq)).map fun v => v.category).sum ≤ 24 := by
    show 2 * 0 + ((r.map (mm_v rho opq)).map fun v => v.category).sum ≤ 24
    rw [mm_sum_v ho]
    omega
  have hpre : ∀ T : State, T.heap = H → ∀ vm₁, s.WarmedH vm₁ → PreOf R (res.2.2.2.1 - σ.2.2.1) (res.2.2.2.2 - σ.2.2.2) (mm_Pc P stn sts rho opq cA D B A σ) ⟨T.setVm vm₁, locs, cells, slots⟩ (A.map (mm_v rho opq)).toArray := by
    intro T hT vm₁ hW
    refine ⟨hcells, hslots, rfl, mm_env_to (U := T.setVm vm₁) hEnv hR.2.1 hT hW, ?_, ?_, ?_, hR.2.2.2.2⟩
    · show va_P D vwCl _ T.heap
      rw [hT]; exact hR.1
    · intro hc
      show T.heap.size = _
      rw [hT]; exact (hR.2.2.1 hc).1
    · show _ ≤ T.heap.size
      rw [hT]; exact hR.2.2.2.1
  have hcd : (mm_cw t).before args s = true := hts _ (mm_gw_T e2)
  obtain ⟨code, nL, Y, bytes, ret, hh⟩ := t
  have hlen : ∀ (q : Nat), q = n → ∀ sig, parseMethodDescriptor Y.desc = some sig → q = sig.parameters.length := by
    intro q hq sig hs
    have h9 : (parseMethodDescriptor Y.desc).map (fun d => d.parameters.length) = some n := e6
    rw [hs] at h9
    rw [hq]
    exact (Option.some.inj h9).symm
  refine mm_run_of fun T hT X => ?_
  rcases e7 with ⟨rfl, g1, g2, g3, g4, C, g5, g6⟩ | ⟨rfl, g1, g2, g3, g4⟩ | ⟨rfl, g1, g2, g3, g4, g5, g6, g7⟩ | ⟨rfl, g1, g2, g3, g4, g5, g6, rfl, rfl⟩ | ⟨rfl, g1, g2, g3, g4, g5, g6, g7, g8, rfl⟩
  · have hi2 : mm_isr P σ ci A = true := hi.elim (fun z => nomatch z) id
    obtain ⟨b9, As, rfl⟩ : ∃ b9 As, A = .ref b9 :: As := by
      unfold mm_isr at hi2
      split at hi2
      · exact ⟨_, _, rfl⟩
      · cases hi2
    obtain ⟨cellB, hcB, hoB, hclB⟩ : ∃ cellB : Cell, H[rho b9]? = some cellB ∧ cellB.vm.isStatics = false ∧ s.vm.findClass C = some cellB.cls := by
      simp only [mm_isr] at hi2
      rcases g6 with ⟨rfl, rfl⟩ | ⟨hne, T9, N9, g6⟩
      · rw [if_pos rfl] at hi2
        split at hi2
        · split at hi2
          · rename_i c9 fs9 h9
            have e9 : c9 = 11 := by simpa using hi2
            subst e9
            exact va_recv (q := (RJ0, TJ0, 4)) hEnv.1 hR.1 rfl (mm_w_at h9)
          · cases hi2
        · obtain ⟨v9, hv9⟩ := Option.isSome_iff_exists.mp hi2
          obtain ⟨cell, h1, h2, h3, -⟩ := (hEnv.2.2.2.2.2.1 b9 0 v9 hv9).2.kept hR.2.1.2.1
          exact ⟨cell, h1, h2, h3⟩
      · rw [if_neg hne] at hi2
        split at hi2
        · rename_i c9 fs9 h9
          have e9 : c9 = ci := by simpa using hi2
          subst e9
          exact va_recv hEnv.1 hR.1 g6 (mm_w_at h9)
        · cases hi2
    have hAs : As.length = n := by simp only [List.length_cons] at f2; omega
    have hst : S.map (mm_v rho opq) = (As.map (mm_v rho opq)).reverse ++ .ref (rho b9) :: r.map (mm_v rho opq) := by
      rw [f1]
      simp [mm_v]
    cases hh with
    | nil => exact vx_callV X hx (C := C) (bytes := bytes) (maxL := nL) (ret := ret) hown (hts _ g3) (hts _ g4) (hts _ g5) hcd e5 hK (by rw [hT]; exact hcB) hoB hclB rfl hml.symm (argsL := As.map (mm_v rho opq)) (rest := r.map (mm_v rho opq)) (hlen _ (by rw [List.length_map]; exact hAs)) hst hmon (by rw [hb]; exact g2) (hpre T hT)
    | cons x y => exact vx_callVX X hx (C := C) (hh := x :: y) (bytes := bytes) (maxL := nL) (ret := ret) hown (hts _ g3) (hts _ g4) (hts _ g5) hcd e5 hK (by rw [hT]; exact hcB) hoB hclB rfl hml.symm (argsL := As.map (mm_v rho opq)) (rest := r.map (mm_v rho opq)) (hlen _ (by rw [List.length_map]; exact hAs)) hst hmon (by rw [hb]; exact g2) (hpre T hT)
  · have hst : S.map (mm_v rho opq) = (A.map (mm_v rho opq)).reverse ++ r.map (mm_v rho opq) := by
      rw [f1]
      simp
    rcases g4 with g4 | ⟨rfl, host, g4⟩
    · cases hh with
      | nil => exact vx_callS X hx (bytes := bytes) (maxL := nL) (ret := ret) hown (hts _ g4) (hts _ g3) (hts _ e4) hcd e5 hK rfl hml.symm (argsL := A.map (mm_v rho opq)) (rest := r.map (mm_v rho opq)) (hlen _ (by rw [List.length_map]; omega)) hst hmon (by rw [hb]; exact g2) (hpre T hT)
      | cons x y => exact vx_callSX X hx (hh := x :: y) (bytes := bytes) (maxL := nL) (ret := ret) hown (hts _ g4) (hts _ g3) (hts _ e4) hcd e5 hK rfl hml.symm (argsL := A.map (mm_v rho opq)) (rest := r.map (mm_v rho opq)) (hlen _ (by rw [List.length_map]; omega)) hst hmon (by rw [hb]; exact g2) (hpre T hT)
    · exact vx_callSN X hx (bytes := bytes) (maxL := nL) (ret := ret) hown (hts _ g4) (hts _ g3) (hts _ e4) hcd e5 hK rfl hml.symm (argsL := A.map (mm_v rho opq)) (rest := r.map (mm_v rho opq)) (hlen _ (by rw [List.length_map]; omega)) hst hmon (by rw [hb]; exact g2) (hpre T hT)
  · have hi2 : mm_isr P σ ci A = true := hi.elim (fun z => nomatch z) id
    obtain ⟨b9, As, rfl⟩ : ∃ b9 As, A = .ref b9 :: As := by
      unfold mm_isr at hi2
      split at hi2
      · exact ⟨_, _, rfl⟩
      · cases hi2
    have hAs : As.length = n := by simp only [List.length_cons] at f2; omega
    have hst : S.map (mm_v rho opq) = (As.map (mm_v rho opq)).reverse ++ .ref (rho b9) :: r.map (mm_v rho opq) := by
      rw [f1]
      simp [mm_v]
    dsimp only at g3 g4 g5
    subst g4; subst g5
    rcases g7 with g7 | ⟨host, g7⟩
    · exact vx_callI X hx (bytes := bytes) (maxL := nL) hown g3 (hts _ g7) (hts _ g6) hcd e5 hK rfl hml.symm (argsL := As.map (mm_v rho opq)) (rest := r.map (mm_v rho opq)) (hlen _ (by rw [List.length_map]; exact hAs)) hst hmon (by rw [hb]; exact g2) (hpre T hT)
    · exact vx_callIN X hx (bytes := bytes) (maxL := nL) hown g3 (hts _ g7) (hts _ g6) hcd e5 hK rfl hml.symm (argsL := As.map (mm_v rho opq)) (rest := r.map (mm_v rho opq)) (hlen _ (by rw [List.length_map]; exact hAs)) hst hmon (by rw [hb]; exact g2) (hpre T hT)
  · have hi2 : mm_isr P σ 12 A = true := hi.elim (fun z => nomatch z) id
    obtain ⟨b9, As, rfl⟩ : ∃ b9 As, A = .ref b9 :: As := by
      unfold mm_isr at hi2
      split at hi2
      · exact ⟨_, _, rfl⟩
      · cases hi2
    obtain ⟨cellB, hcB, hoB, hclB⟩ : ∃ cellB : Cell, H[rho b9]? = some cellB ∧ cellB.vm.isStatics = false ∧ s.vm.findClass RJ4 = some cellB.cls := by
      simp only [mm_isr] at hi2
      rw [if_neg (show ¬ (12 : Nat) = 100 by decide)] at hi2
      split at hi2
      · rename_i c9 fs9 h9
        have e9 : c9 = 12 := by simpa using hi2
        subst e9
        exact va_recv (q := (RJ4, TJ4, 4)) hEnv.1 hR.1 rfl (mm_w_at h9)
      · cases hi2
    have hAs : As.length = 0 := by simp only [List.length_cons] at f2; omega
    have hst : S.map (mm_v rho opq) = (As.map (mm_v rho opq)).reverse ++ .ref (rho b9) :: r.map (mm_v rho opq) := by
      rw [f1]
      simp [mm_v]
    dsimp only at g3
    subst g3
    obtain ⟨z1, z2, bz, mz, rz, z3⟩ := mm_znW
    have hd0 : va_Decl s ⟨RJ5, mm_zn.name, mm_zn.desc⟩ := va_Decl.of (x := mm_zn) (hts _ z2) (hts _ z3)
    exact vx_callVU X hx (C := RJ4) (owner := RJ5) (x := mm_zn) (bytes := bytes) (maxL := nL) (ret := ret) hown (hts _ g4) (hts _ z1) hd0 ⟨by decide +kernel, by decide +kernel⟩ (hts _ g6) (hts _ g5) hcd hK (by rw [hT]; exact hcB) hoB hclB rfl hml.symm (argsL := As.map (mm_v rho opq)) (rest := r.map (mm_v rho opq)) (fun sig hs => by
      have h9 : (parseMethodDescriptor "()I").map (fun d => d.parameters.length) = some 0 := by decide +kernel
      rw [show parseMethodDescriptor "()I" = some sig from hs] at h9
      rw [List.length_map, hAs]
      exact (Option.some.inj h9).symm) hst hmon (by rw [hb]; exact g2) (hpre T hT)
  · have hi2 : mm_isr P σ 12 A = true := hi.elim (fun z => nomatch z) id
    obtain ⟨b9, As, rfl⟩ : ∃ b9 As, A = .ref b9 :: As := by
      unfold mm_isr at hi2
      split at hi2
      · exact ⟨_, _, rfl⟩
      · cases hi2
    obtain ⟨cellB, hcB, hoB, hclB⟩ : ∃ cellB : Cell, H[rho b9]? = some cellB ∧ cellB.vm.isStatics = false ∧ s.vm.findClass RJ4 = some cellB.cls := by
      simp only [mm_isr] at hi2
      rw [if_neg (show ¬ (12 : Nat) = 100 by decide)] at hi2
      split at hi2
      · rename_i c9 fs9 h9
        have e9 : c9 = 12 := by simpa using hi2
        subst e9
        exact va_recv (q := (RJ4, TJ4, 4)) hEnv.1 hR.1 rfl (mm_w_at h9)
      · cases hi2
    have hAs : As.length = n := by simp only [List.length_cons] at f2; omega
    have hst : S.map (mm_v rho opq) = (As.map (mm_v rho opq)).reverse ++ .ref (rho b9) :: r.map (mm_v rho opq) := by
      rw [f1]
      simp [mm_v]
    dsimp only at g4
    subst g4
    obtain ⟨hfc, kB, hkB, -⟩ := (hEnv.1.1 12 (RJ4, TJ4, 4) rfl).2
    rw [Option.some.inj (hfc.symm.trans hclB)] at hkB
    exact vx_callSU X hx (bytes := bytes) (maxL := nL) (ret := ret) hown (hts _ g6) (hts _ g7) (hts _ g8) (hts _ g5) hcd g3 hK (by rw [hT]; exact hcB) hoB hkB rfl hml.symm (argsL := As.map (mm_v rho opq)) (rest := r.map (mm_v rho opq)) (hlen _ (by rw [List.length_map]; exact hAs)) hst hmon (by rw [hb]; exact g2) (hpre T hT)
end MMC
end
section
/-! a step of the mini machine is the machine's -/
def mm_astore (cc : ByteArray) (h len k : Nat) : Prop := (decode cc h = .ok (.astore k, 2) ∧ len = 2) ∨ ∃ k4 : Fin 4, (k4 : Nat) = k ∧ decode cc h = .ok (.astore_n k4, 1) ∧ len = 1
/-- handlers over a call at pc -/
def mm_hE (own : String) (cc : ByteArray) (hh : List (Nat × Nat × Nat × Nat)) (pc : Nat) (hs : List (String × Nat × Nat × Nat)) : Prop :=
  (hs = [] → ∀ x ∈ tableOf hh, covers x pc = false) ∧
  (∀ (E : String) (h len k : Nat), hs.lookup E = some (h, len, k) → ∃ (pre : List ExceptionTableEntry) (x : ExceptionTableEntry) (suf : List ExceptionTableEntry) (name : String), tableOf hh = pre ++ x :: suf ∧
    (∀ z ∈ pre, covers z pc = false ∨ (z.catchType ≠ 0 ∧ ∃ nm : String, Cond.classLink own z.catchType nm ∈ mm_T ∧ E ∈ mm_ex ∧ nm ∈ mm_ex ∧ E ≠ nm)) ∧
    covers x pc = true ∧ x.catchType ≠ 0 ∧ Cond.classLink own x.catchType name ∈ mm_T ∧ Cond.castable E name ∈ mm_T ∧ x.handlerPc = h ∧ mm_astore cc h len k)
/-- a 'throw new E("text")' -/
def mm_tE (sts : String → Nat → Option (Nat × String)) (own : String) (cc : ByteArray) (hh : List (Nat × Nat × Nat × Nat)) (pc : Nat) (E : String) : Prop :=
  ∃ (ik is ic sid : Nat) (tx : String), Cond.classLink own ik E ∈ mm_T ∧ Cond.initialized E ∈ mm_T ∧ sts own is = some (sid, tx) ∧ (∀ w ∈ vx_atS own ic E ["java/lang/RuntimeException", "java/lang/Exception"], w ∈ mm_T) ∧ Bundle.fit E = true ∧
    decode cc pc = .ok (.new ik, 3) ∧ decode cc (pc + 3) = .ok (.dup, 1) ∧
    ((decode cc (pc + 4) = .ok (.ldc is, 2) ∧ decode cc (pc + 6) = .ok (.invokespecial ic, 3) ∧ decode cc (pc + 9) = .ok (.athrow, 1) ∧ ∀ x ∈ tableOf hh, covers x (pc + 9) = false) ∨
     (decode cc (pc + 4) = .ok (.ldc_w is, 3) ∧ decode cc (pc + 7) = .ok (.invokespecial ic, 3) ∧ decode cc (pc + 10) = .ok (.athrow, 1) ∧ ∀ x ∈ tableOf hh, covers x (pc + 10) = false))
theorem mm_stN_lh {rho : Nat → Nat} {opq : Nat → Value} (ho : mm_opq opq) {ls' : Array Slot} {nL k : Nat} {L : mm_L} {w : Value} (hL : L.length = nL) (hk : k < L.length)
    (h' : lv_has ls' nL ((k, w) :: (mm_prs rho opq L).filter (fun q => !(q.1 == k) && !(q.1 + 1 == k && q.2.category == 2)))) : mm_lh rho opq ls' nL ((mm_kl L k).set k none) := by
  refine ⟨h'.1, h'.2.1, by rw [List.length_set, mm_kl_len]; exact hL, fun j v hj => ?_⟩
  rw [List.getElem?_set] at hj
  split at hj
  · split at hj <;> cases hj
  · rename_i hn
    obtain ⟨h1, h2⟩ := mm_kl_get hj
    refine h'.2.2 (j, mm_v rho opq v) (List.mem_cons_of_mem _ (List.mem_filter.mpr ⟨mm_prs_mem h1, ?_⟩))
    have n1 : (j == k) = false := by simpa using fun q : j = k => hn q.symm
    have n2 : (j + 1 == k && (mm_v rho opq v).category == 2) = false := by
      rw [mm_v_cat ho]
      cases hb : (j + 1 == k && v.category == 2) with
      | false => rfl
      | true =>
        simp only [Bool.and_eq_true, beq_iff_eq] at hb
        exact absurd hb h2
    show (!(j == k) && !(j + 1 == k && (mm_v rho opq v).category == 2)) = true
    rw [n1, n2]
    rfl
section MMS
variable {p : Program} {l : Launch} {e : Env} {R : Room} {s : State} {m : MethodId} {args : Array Value} {below : List Frame} {meth : Method} {c : Code} {H : Heap} {locs : List Loc} {cells slots : Nat} {Q : State → Prop}
variable {cc : ByteArray} {pc len : Nat} {ls : Array Slot} {rho : Nat → Nat} {opq : Nat → Value} {cA : Nat → ClassId} {D : va_G} {B : Nat} {P : mm_P} {σ : mm_H} {stn : Nat → String × String × String} {sts : String → Nat → Option (Nat × String)} {own : String}
/-- behind a call -/
theorem mm_ran {st0 rest : List Value} {a : Array Value} {res : mm_R} (hR : mm_rel rho opq cA D B s σ H locs cells) (hm : mm_mono σ res.2)
    (hr : vx_Run p l e R s m args below meth c H locs cells slots (res.2.2.2.1 - σ.2.2.1) (res.2.2.2.2 - σ.2.2.2) (F0 m pc ls st0) rest (mm_Qc rho opq cA D B res a) (mm_XC rho opq cA D B res) (fun q => B ≤ q))
    (kx : ∀ (E : String) (ce : Cell) (q : Addr) (H1 : Heap) (locs1 : List Loc), res.1 = .inr E → mm_rel rho opq cA D B s res.2 H1 locs1 (cells + (res.2.2.2.1 - σ.2.2.1)) → H1[q]? = some ce → ce.vm = .none → s.vm.findClass E = some ce.cls → vx_W p l e R s m args below meth c H1 locs1 (cells + (res.2.2.2.1 - σ.2.2.1)) (slots + (res.2.2.2.2 - σ.2.2.2)) Q (F0 m pc ls rest) q)
    (kk : ∀ (o : Option Value) (H1 : Heap) (locs1 : List Loc), res.1 = .inl o → mm_rel rho opq cA D B s res.2 H1 locs1 (cells + (res.2.2.2.1 - σ.2.2.1)) → W p l e R s m args below meth c H1 locs1 (cells + (res.2.2.2.1 - σ.2.2.1)) (slots + (res.2.2.2.2 - σ.2.2.2)) Q (F0 m (pc + 3) ls ((o.map (mm_v rho opq)).toList ++ rest))) : W p l e R s m args below meth c H locs cells slots Q (F0 m pc ls st0) := by
  have rel : ∀ (st₀ t T' : State) (L : List Loc), st₀.heap = H → T'.heap = t.heap → (∀ q ∈ L, (fun q => B ≤ q) q.base) → mm_pre rho opq cA D B res.2 t.heap → va_F (fun q => B ≤ q) st₀ t → mm_rel rho opq cA D B s res.2 T'.heap (locs ++ L) (cells + (res.2.2.2.1 - σ.2.2.1)) := by
    intro st₀ t T' L h0 e1 hL hp hF
    obtain ⟨k1, k2, k3⟩ := vx_keep h0 e1 hR.2.1 (fun _ _ h => h) (fun _ h => h) hL hF
    obtain ⟨p1, p2, p3, p4⟩ := hp
    refine ⟨by rw [e1]; exact p1, k3, fun hc => ?_, by rw [e1]; exact p3, p4⟩
    obtain ⟨m1, m2⟩ := hm.2.2 hc
    obtain ⟨r1, r2⟩ := hR.2.2.1 m1
    have m3 := hm.1
    have p5 := p2 hc
    rw [e1]
    omega
  intro T hT X
  rcases hr T hT X with ⟨v, st₀, t, T', L, h0, X', hL, e1, e2, ⟨⟨o, ho1, ho2⟩, hp, hF⟩, st⟩ | ⟨q, st₀, t, T', L, E, ce, h0, X', hL, e1, e2, ⟨hE, hp, hF⟩, hce, hcv, hcl, st⟩
  · cases ho2
    obtain ⟨t2, a1, b1⟩ := kk o T'.heap (locs ++ L) ho1 (rel st₀ t T' L h0 e1 hL hp hF) T' rfl X'
    exact ⟨t2, st t2 a1, b1⟩
  · obtain ⟨t2, a1, b1⟩ := kx E ce q T'.heap (locs ++ L) hE (rel st₀ t T' L h0 e1 hL hp hF) (by rw [e1]; exact hce) hcv hcl T' rfl X'
    exact ⟨t2, st.trans a1, b1⟩
/-- thrown, and caught here -/
theorem mm_caught {nL : Nat} {L : mm_L} {hh : List (Nat × Nat × Nat × Nat)} {hs : List (String × Nat × Nat × Nat)} {E : String} {ce : Cell} {q : Addr} {h len k : Nat} {rest : List Value} (hx : p.tables.exec = Jvm.exec) (hb : c.code = cc) (ho : mm_opq opq) (hts : ∀ w ∈ mm_T, w.before args s = true) (hown : s.vm.findClass own = some m.cls) (hEnv : mm_env P stn sts rho opq cA D B s) (htab : c.exceptionTable.toList = tableOf hh) (hl : mm_lh rho opq ls nL L) (hE : mm_hE own cc hh pc hs) (hlk : hs.lookup E = some (h, len, k)) (hk : k < L.length) (hcell : H[q]? = some ce) (hv : ce.vm = .none) (hcl : s.vm.findClass E = some ce.cls)
    (kk : ∀ ls' : Array Slot, mm_lh rho opq ls' nL ((mm_kl L k).set k none) → W p l e R s m args below meth c H locs cells slots Q (F0 m (h + len) ls' [])) : vx_W p l e R s m args below meth c H locs cells slots Q (F0 m pc ls rest) q := by
  obtain ⟨pre, x, suf, name, g1, g2, g3, g4, g5, g6, g7, g8⟩ := hE.2 E h len k hlk
  refine vx_catch hown pre x suf (htab.trans g1) (fun z hz => ?_) g3 g4 (hts _ g5) (hts _ g6) hcell hv hcl ?_
  · rcases g2 z hz with h2 | ⟨h2, nm, h3, h4, h5, h6⟩
    · exact Or.inl h2
    · exact Or.inr ⟨h2, nm, hts _ h3, hEnv.2.2.2.2.2.2.2.2.2 E h4 nm h5 h6⟩
  · rw [g7]
    have hH := mm_lh_has hl
    have hkn : k < nL := hl.2.2.1 ▸ hk
    rcases g8 with ⟨d1, rfl⟩ | ⟨k4, rfl, d1, rfl⟩
    · exact lv_astore hx hb d1 hH hkn rfl (fun ls' h' => kk ls' (mm_stN_lh ho hl.2.2.1 hk h'))
    · exact lv_astore_n hx hb d1 rfl hH hkn rfl (fun ls' h' => kk ls' (mm_stN_lh ho hl.2.2.1 hk h'))
theorem mm_pre_of (hR : mm_rel rho opq cA D B s σ H locs cells) {t : State} (ht : t.heap = H) : mm_pre rho opq cA D B σ t.heap := by
  rw [ht]
  exact ⟨hR.1, fun hc => (hR.2.2.1 hc).1, hR.2.2.2.1, hR.2.2.2.2⟩
/-- thrown, and out -/
theorem mm_outs {hh : List (Nat × Nat × Nat × Nat)} {E : String} {ce : Cell} {q : Addr} {rest : List Value} {mc ms : Nat} (htab : c.exceptionTable.toList = tableOf hh) (hno : ∀ x ∈ tableOf hh, covers x pc = false) (hlocks : meth.locks = false) (hR : mm_rel rho opq cA D B s σ H locs cells) (hcell : H[q]? = some ce) (hv : ce.vm = .none) (hcl : s.vm.findClass E = some ce.cls) (hc : cells ≤ mc) (hs : slots ≤ ms) :
    vx_W p l e R s m args below meth c H locs cells slots (vx_MQ below (mm_Qc rho opq cA D B (.inr E, σ)) (mm_XC rho opq cA D B (.inr E, σ)) args s mc ms (fun q => B ≤ q)) (F0 m pc ls rest) q :=
  vx_out (fun x hx => hno x (by rw [← htab]; exact hx)) hlocks hcell hv hcl (fun t ht _ => ⟨rfl, mm_pre_of hR ht, hR.2.1.F ht⟩) hR.2.1.2.2 hc hs
/-- throw new E("text") -/
theorem mm_thr_sim {hh : List (Nat × Nat × Nat × Nat)} {E : String} {S : List Value} {mc ms : Nat} (hx : p.tables.exec = Jvm.exec) (hb : c.code = cc) (ho : mm_opq opq) (hst : l.stackTraces = false) (hlocks : meth.locks = false) (hts : ∀ w ∈ mm_T, w.before args s = true) (hown : s.vm.findClass own = some m.cls) (hEnv : mm_env P stn sts rho opq cA D B s) (hml : c.maxLocals = ls.size) (htab : c.exceptionTable.toList = tableOf hh) (hfr : 7 ≤ R.frames) (hlo : 150 ≤ R.locals) (hR : mm_rel rho opq cA D B s σ H locs cells) (hE : mm_tE sts own cc hh pc E) (h24 : mm_sum S ≤ 24) (hc1 : cells + 1 ≤ R.cells) (hs1 : slots + 6 ≤ R.slots) (hc : cells + 1 ≤ mc) (hs : slots + 6 ≤ ms) :
    W p l e R s m args below meth c H locs cells slots (vx_MQ below (mm_Qc rho opq cA D B (.inr E, (σ.1, false, σ.2.2.1 + 1, σ.2.2.2 + 6))) (mm_XC rho opq cA D B (.inr E, (σ.1, false, σ.2.2.1 + 1, σ.2.2.2 + 6))) args s mc ms (fun q => B ≤ q)) (F0 m pc ls (S.map (mm_v rho opq))) := by
  obtain ⟨ik, is, ic, sid, tx, g1, g2, g3, g4, g5, g6, g7, g8⟩ := hE
  have hstr := hEnv.2.2.2.2.1 own is sid tx g3
  have hU := hEnv.2.2.2.2.2.2.2.1
  have hN := hEnv.2.2.2.2.2.2.2.2.1
  have hxx : ∀ t : State, s.vm.Alike t.vm → H.size ≤ t.heap.size → (∀ q : Nat, q < H.size → t.heap[q]? = H[q]?) → mm_XC rho opq cA D B (.inr E, (σ.1, false, σ.2.2.1 + 1, σ.2.2.2 + 6)) E s t := by
    intro t _ hz hq
    refine ⟨rfl, ⟨fun k q hk => ?_, (fun z => nomatch z), Nat.le_trans hR.2.2.2.1 hz, hR.2.2.2.2⟩, Nat.le_trans hR.2.1.1 hz, fun q h1 h2 => ?_⟩
    · have h9 := hR.1 k q hk
      exact h9.kept (hq q.1 h9.lt)
    · rw [hq q (Nat.lt_of_lt_of_le h1 hR.2.1.1)]
      exact hR.2.1.2.1 q h1 h2
  have hat : ∀ w ∈ vx_atS own ic E ["java/lang/RuntimeException", "java/lang/Exception"], w.before args s = true := fun w hw => hts w (g4 w hw)
  have hgood : ∀ w ∈ Cond.classLink own ik E :: Cond.initialized E :: vx_atS own ic E ["java/lang/RuntimeException", "java/lang/Exception"], vx_ot w = true := by
    intro w hw
    rcases List.mem_cons.mp hw with rfl | hw
    · exact mm_T_ot g1
    · rcases List.mem_cons.mp hw with rfl | hw
      · exact mm_T_ot g2
      · exact mm_T_ot (g4 w hw)
  have hnm : ∀ n ∈ ["java/lang/RuntimeException", "java/lang/Exception"], Bundle.fit n = true := by decide +kernel
  have hrl : ((S.map (mm_v rho opq)).map fun v => v.category).sum + (13 * (["java/lang/RuntimeException", "java/lang/Exception"].length + 1) + 43) ≤ R.locals := by
    rw [mm_sum_v ho]
    show mm_sum S + (13 * 3 + 43) ≤ R.locals
    omega
  have hrf : ["java/lang/RuntimeException", "java/lang/Exception"].length + 3 < R.frames := by
    show 5 < R.frames
    omega
  rcases g8 with ⟨d4, d6, d9, hno⟩ | ⟨d4, d7, d10, hno⟩
  · exact vx_throwS hx hb hst hown g5 hnm (hts _ g1) (hts _ g2) hstr hat hgood hU hN hR.2.1 hml.symm g6 g7 d4 d6 d9 (fun x hx9 => hno x (by rw [← htab]; exact hx9)) hrf hrl hc1 hs1 hlocks hxx hR.2.1.2.2 hc hs
  · exact vx_throwSW hx hb hst hown g5 hnm (hts _ g1) (hts _ g2) hstr hat hgood hU hN hR.2.1 hml.symm g6 g7 d4 d7 d10 (fun x hx9 => hno x (by rw [← htab]; exact hx9)) hrf hrl hc1 hs1 hlocks hxx hR.2.1.2.2 hc hs
end MMS
end
section
/-! THE SIMULATION: what the mini machine's run gives, the machine does -/
/-- what is known of an instruction: by its kind -/
def mm_opE (P : mm_P) (MT : Nat → Option mm_M) (stn : Nat → String × String × String) (sts : String → Nat → Option (Nat × String)) (own yn : String) (cc : ByteArray) (hh : List (Nat × Nat × Nat × Nat)) (ret : Option FieldType) (pc len : Nat) (op : mm_Op) : Prop := match op with
  | (0, _, _, _, _, i, _) => decode cc pc = .ok (i, len) ∧ len = mm_len i
  | (1, _, _, _, _, i, _) => decode cc pc = .ok (i, len) ∧ (len = mm_len i ∨ mm_isSw i = true)
  | (2, _, _, _, _, i, _) => decode cc pc = .ok (i, len) ∧ len = mm_len i
  | (3, _, _, _, _, i, _) => decode cc pc = .ok (i, len) ∧ len = mm_len i
  | (4, a, _, _, _, i, _) => decode cc pc = .ok (i, len) ∧ len = mm_len i ∧ mm_rE a i ret
  | (5, a, _, _, _, _, _) => ∃ v, P.2.2.1 a = some v ∧ mm_kE own cc pc len v
  | (6, a, _, _, _, _, _) => ∃ (idx : Nat) (tx : String), sts own idx = some (a, tx) ∧ ((decode cc pc = .ok (.ldc idx, 2) ∧ len = 2) ∨ (decode cc pc = .ok (.ldc_w idx, 3) ∧ len = 3))
  | (7, a, b, _, _, _, _) => len = 3 ∧ ∃ idx, decode cc pc = .ok (.getfield idx, 3) ∧ mm_fE own idx a b
  | (8, a, b, _, _, _, _) => len = 3 ∧ ∃ (idx : Nat) (ty : FieldType), decode cc pc = .ok (.putfield idx, 3) ∧ P.2.2.2.2.2 a b = some ty ∧ mm_fW own yn idx a b ty
  | (9, a, _, _, _, _, _) => len = 3 ∧ ∃ idx, decode cc pc = .ok (.getstatic idx, 3) ∧ Cond.fieldLink own idx (stn a).1 (stn a).2.1 (stn a).2.2 ∈ mm_T
  | (10, a, _, _, _, _, _) => len = 3 ∧ a < 2 ∧ ∃ idx, decode cc pc = .ok (.getfield idx, 3) ∧ Cond.fieldLink own idx "java/lang/String" (mm_sf a).1 (mm_sf a).2 ∈ mm_T
  | (11, a, _, _, _, _, _) => len = 3 ∧ ∃ (idx : Nat) (fs : List Value), decode cc pc = .ok (.new idx, 3) ∧ P.2.2.2.2.1 a = some fs ∧ mm_nE own idx a fs
  | (12, a, _, _, _, _, _) => (a < 4 ∧ len = 2 ∧ decode cc pc = .ok (.newarray (mm_at9 a), 2) ∧ Cond.arrayClass (mm_ty a) ∈ mm_T) ∨ (a = 5 ∧ len = 3 ∧ ∃ idx, decode cc pc = .ok (.anewarray idx, 3) ∧ Cond.classLink own idx RX5 ∈ mm_T)
  | (13, _, _, _, _, i, _) => decode cc pc = .ok (i, len) ∧ len = mm_len i
  | (14, _, _, _, _, _, _) => len = 3 ∧ ∃ idx, decode cc pc = .ok (.invokespecial idx, 3) ∧ Cond.methodLink own idx objectInit ∈ mm_T
  | (15, a, b, ci, d9, _, hs) => mm_iE MT own cc pc a b ci d9 ∧ mm_hE own cc hh pc hs
  | (16, _, _, _, _, _, hs) => ∀ E q r, hs = (E, q) :: r → mm_tE sts own cc hh pc E
  | (17, _, _, _, _, _, _) => len = 3 ∧ ∃ idx, decode cc pc = .ok (.invokestatic idx, 3) ∧ Cond.methodLink own idx arraycopyName ∈ mm_T
  | (18, _, _, _, _, _, _) => len = 3 ∧ ∃ idx, decode cc pc = .ok (.invokestatic idx, 3) ∧ Cond.methodLink own idx Lib.Math.max.name ∈ mm_T
  | (19, _, _, _, _, _, _) => len = 3 ∧ ∃ idx, decode cc pc = .ok (.invokestatic idx, 3) ∧ Cond.methodLink own idx Lib.Math.min.name ∈ mm_T
  | (20, a, _, _, _, _, _) => len = 6 ∧ ∃ idx, decode cc pc = .ok (.invokevirtual idx, 3) ∧ decode cc (pc + 3) = .ok (.checkcast a, 3) ∧ ∀ w ∈ mm_clW own idx a, w ∈ mm_T
  | _ => True
theorem mm_maxW : Cond.static Lib.Math.max.name ∈ mm_T ∧ Cond.initialized "java/lang/Math" ∈ mm_T ∧ Cond.code Lib.Math.max.name Lib.Math.max.code 2 (some .int) ∈ mm_T := ⟨by decide +kernel, by decide +kernel, by decide +kernel⟩
theorem mm_minW : Cond.static Lib.Math.min.name ∈ mm_T ∧ Cond.code Lib.Math.min.name Lib.Math.min.code 2 (some .int) ∈ mm_T := ⟨by decide +kernel, by decide +kernel⟩
theorem mm_objW : Cond.instanceMethod objectInit ∈ mm_T ∧ Cond.code objectInit ⟨#[0xb1]⟩ 1 none ∈ mm_T := ⟨by decide +kernel, by decide +kernel⟩
theorem mm_cpyW : Cond.native arraycopyName ∈ mm_T ∧ Cond.static arraycopyName ∈ mm_T ∧ Cond.initialized "java/lang/System" ∈ mm_T := ⟨by decide +kernel, by decide +kernel, by decide +kernel⟩
theorem mm_nfw : 24 + (nativeFrameWords "java/lang/System" "arraycopy" 5 + 11) ≤ 150 := by decide +kernel
/-- what a frame has -/
def mm_fr (P : mm_P) (stn : Nat → String × String × String) (sts : String → Nat → Option (Nat × String)) (rho : Nat → Nat) (opq : Nat → Value) (cA : Nat → ClassId) (D : va_G) (B : Nat) (p : Program) (l : Launch) (s : State) (m : MethodId) (args : Array Value) (meth : Method) (c : Code) (R : Room) (own yn : String) (cc : ByteArray) (hh : List (Nat × Nat × Nat × Nat)) (ret : Option FieldType) (nL d : Nat) : Prop :=
  p.tables.exec = Jvm.exec ∧ c.code = cc ∧ meth.sig.returnType = ret ∧ meth.locks = false ∧ (∀ w ∈ mm_T, w.before args s = true) ∧ s.vm.findClass own = some m.cls ∧ (yn = "<init>" → meth.name = "<init>") ∧ c.maxLocals = nL ∧ c.exceptionTable.toList = tableOf hh ∧ mm_env P stn sts rho opq cA D B s ∧ l.stackTraces = false ∧ mm_opq opq ∧ mm_rho rho B ∧ d + 7 ≤ R.frames ∧ 65 * (d + 1) + 150 ≤ R.locals
theorem mm_awr_same {i : Instr} {σ σ' : mm_H} {S r : List Value} (h : mm_awr i σ S = some (σ', r)) : σ'.2.2.1 = σ.2.2.1 ∧ σ'.2.2.2 = σ.2.2.2 := by
  cases i <;> simp only [mm_awr, reduceCtorEq] at h
  all_goals
    repeat' (first | cases h | split at h)
    all_goals exact ⟨rfl, rfl⟩
theorem mm_putf_same {P : mm_P} {σ σ' : mm_H} {ci k : Nat} {S r : List Value} (h : mm_putf P σ ci k S = some (σ', r)) : σ'.2.2.1 = σ.2.2.1 ∧ σ'.2.2.2 = σ.2.2.2 := by
  unfold mm_putf at h
  repeat' (first | cases h | split at h)
  all_goals exact ⟨rfl, rfl⟩
theorem mm_clone_cnt {σ σ' : mm_H} {S r : List Value} (h : mm_clone σ S = some (σ', r)) : σ'.2.2.1 = σ.2.2.1 + 1 ∧ σ.2.2.2 ≤ σ'.2.2.2 := by
  unfold mm_clone at h
  repeat' (first | cases h | split at h)
  all_goals exact ⟨rfl, Nat.le_add_right _ _⟩
theorem mm_copy_same {P : mm_P} {σ σ' : mm_H} {S r : List Value} (h : mm_copy P σ S = some (σ', r)) : σ'.2.2.1 = σ.2.2.1 ∧ σ'.2.2.2 = σ.2.2.2 := by
  unfold mm_copy at h
  repeat' (first | cases h | split at h)
  all_goals exact ⟨rfl, rfl⟩
theorem mm_new_cnt {P : mm_P} {σ σ' : mm_H} {ci : Nat} {v : Value} {fs : List Value} (h : mm_new P σ ci = some (σ', v)) (hf : P.2.2.2.2.1 ci = some fs) : σ'.2.2.1 = σ.2.2.1 + 1 ∧ σ'.2.2.2 = σ.2.2.2 + fs.length := by
  unfold mm_new at h
  rw [hf] at h
  split at h
  · cases h
    exact ⟨rfl, rfl⟩
  · cases h
theorem mm_newa_cnt {σ σ' : mm_H} {t : Nat} {S r : List Value} (h : mm_newa σ t S = some (σ', r)) : σ'.2.2.1 = σ.2.2.1 + 1 ∧ σ.2.2.2 ≤ σ'.2.2.2 := by
  unfold mm_newa at h
  repeat' (first | cases h | split at h)
  all_goals exact ⟨rfl, Nat.le_add_right _ _⟩
section MMZ
variable {p : Program} {l : Launch} {e : Env} {R : Room} {s : State} {m : MethodId} {args : Array Value} {below : List Frame} {meth : Method} {c : Code} {H : Heap} {locs : List Loc} {Q : State → Prop}
variable {cc : ByteArray} {pc len : Nat} {ls : Array Slot} {rho : Nat → Nat} {opq : Nat → Value} {cA : Nat → ClassId} {D : va_G} {B : Nat} {P : mm_P} {σ : mm_H} {stn : Nat → String × String × String} {sts : String → Nat → Option (Nat × String)} {own yn : String} {hh : List (Nat × Nat × Nat × Nat)} {ret : Option FieldType} {nL d n0 s0 : Nat} {MT : Nat → Option mm_M} {call : Nat → List Value → mm_H → Option mm_R}
theorem mm_step_next {op : mm_Op} {L L' : mm_L} {S S' : List Value} {σ' : mm_H} {pc' : Nat} (C : mm_fr P stn sts rho opq cA D B p l s m args meth c R own yn cc hh ret nL d) (hmono : ∀ y A σ r, call y A σ = some r → mm_mono σ r.2) (hcall : ∀ y t A σ r, call y A σ = some r → MT y = some t → mm_Con l P stn sts rho opq cA D B t d A σ r)
    (h : mm_step P call op pc len L S σ = some (.inl (pc', L', S', σ'))) (hE : mm_opE P MT stn sts own yn cc hh ret pc len op) (hn : n0 ≤ σ.2.2.1) (hs0 : s0 ≤ σ.2.2.2) (hcE : σ'.2.2.1 - n0 ≤ R.cells) (hsE : σ'.2.2.2 - s0 ≤ R.slots) (hl : mm_lh rho opq ls nL L) (hR : mm_rel rho opq cA D B s σ H locs (σ.2.2.1 - n0))
    (k : ∀ (H1 : Heap) (locs1 : List Loc) (ls1 : Array Slot), mm_lh rho opq ls1 nL L' → mm_rel rho opq cA D B s σ' H1 locs1 (σ'.2.2.1 - n0) → W p l e R s m args below meth c H1 locs1 (σ'.2.2.1 - n0) (σ'.2.2.2 - s0) Q (F0 m pc' ls1 (S'.map (mm_v rho opq)))) :
    W p l e R s m args below meth c H locs (σ.2.2.1 - n0) (σ.2.2.2 - s0) Q (F0 m pc ls (S.map (mm_v rho opq))) := by
  obtain ⟨hx, hb, hrt, hlocks, hts, hown, hyn, hml, htab, hEnv, hst, ho, hr, hfr, hlo⟩ := C
  have hmls : c.maxLocals = ls.size := hml.trans hl.1.symm
  unfold mm_step at h
  split at h
  case h_1 =>
    split at h
    · rename_i h1
      cases h
      exact mm_alu_sim hx hb ho h1 hE.1 hE.2 (k H locs ls hl hR)
    · cases h
  case h_2 =>
    split at h
    · rename_i h1
      cases h
      exact mm_br_sim hx hb h1 hE.1 hE.2 (k H locs ls hl hR)
    · cases h
  case h_3 =>
    split at h
    · rename_i h1
      cases h
      exact mm_loc_sim hx hb ho hl h1 hE.1 hE.2 (fun ls' hl' => k H locs ls' hl' hR)
    · cases h
  case h_4 =>
    split at h
    · rename_i h1
      cases h
      exact mm_ard_sim hx hb hEnv.1 hR.1 hR.2.1 hEnv.2.2.2.1 h1 hE.1 hE.2 (k H locs ls hl hR)
    · cases h
  case h_5 =>
    split at h <;> cases h
  case h_6 =>
    obtain ⟨v, e1, e2⟩ := hE
    rw [e1] at h
    cases h
    exact mm_kon_sim hx hb hts hown e2 (k H locs ls hl hR)
  case h_7 =>
    obtain ⟨idx, tx, e1, e2⟩ := hE
    cases h
    exact mm_str_sim hx hb hown hEnv e1 e2 (k H locs ls hl hR)
  case h_8 =>
    obtain ⟨rfl, idx, e1, e2⟩ := hE
    split at h
    · rename_i h1
      cases h
      exact mm_getf_sim hx hb hts hown hEnv.1 hR.1 h1 e1 e2 (k H locs ls hl hR)
    · cases h
  case h_9 =>
    obtain ⟨rfl, idx, ty, e1, e2, e3⟩ := hE
    split at h
    · rename_i h1
      cases h
      have hsame : ∀ {q : mm_H}, mm_mono σ q → True := fun _ => trivial
      have hq := mm_putf_same h1
      rw [hq.1, hq.2] at k
      exact mm_putf_sim hx hb hr hts hown hyn hEnv.1 hR h1 e1 e2 e3 (fun H1 locs1 hR1 => k H1 locs1 ls hl hR1)
    · cases h
  case h_10 =>
    obtain ⟨rfl, idx, e1, e2⟩ := hE
    split at h
    · rename_i v h1
      cases h
      exact mm_sta_sim hx hb hts hown hEnv hR.2.1 h1 e1 e2 (k H locs ls hl hR)
    · cases h
  case h_11 =>
    obtain ⟨rfl, e0, idx, e1, e2⟩ := hE
    split at h
    · rename_i h1
      cases h
      exact mm_getO_sim hx hb hts hown hEnv hR.2.1 hR.1 h1 e0 e1 e2 (k H locs ls hl hR)
    · cases h
  case h_12 =>
    obtain ⟨rfl, idx, fs, e1, e2, e3⟩ := hE
    split at h
    · rename_i h1
      cases h
      have hq := mm_new_cnt h1 e2
      have q1 : σ'.2.2.1 - n0 = σ.2.2.1 - n0 + 1 := by omega
      have q2 : σ'.2.2.2 - s0 = σ.2.2.2 - s0 + fs.length := by omega
      rw [q1] at hcE k
      rw [q2] at hsE k
      exact mm_new_sim hx hb hr hts hown hEnv.1 hR h1 e2 e1 e3 hcE hsE (fun H1 hR1 => k H1 locs ls hl hR1)
    · cases h
  case h_13 =>
    split at h
    · rename_i h1
      cases h
      have hq := mm_newa_cnt h1
      have q1 : σ'.2.2.1 - n0 = σ.2.2.1 - n0 + 1 := by omega
      have q2 : σ'.2.2.2 - s0 = σ.2.2.2 - s0 + (σ'.2.2.2 - σ.2.2.2) := by omega
      rw [q1] at hcE k
      rw [q2] at hsE k
      rcases hE with ⟨e1, rfl, e2, e3⟩ | ⟨rfl, rfl, idx, e2, e3⟩
      · exact mm_newa_sim hx hb hr hts hEnv.1 hR h1 e1 e2 e3 hcE hsE (fun H1 hR1 => k H1 locs ls hl hR1)
      · exact mm_newq_sim hx hb hr hts hEnv.2.2.1 hown hEnv.1 hR h1 e2 e3 hcE hsE (fun H1 hR1 => k H1 locs ls hl hR1)
    · cases h
  case h_14 =>
    split at h
    · rename_i h1
      cases h
      have hq := mm_awr_same h1
      rw [hq.1, hq.2] at k
      exact mm_awr_sim hx hb hr hEnv.1 hR h1 hE.1 hE.2 (fun H1 locs1 hR1 => k H1 locs1 ls hl hR1)
    · cases h
  case h_15 =>
    obtain ⟨rfl, idx, e1, e2⟩ := hE
    split at h
    · split at h
      · rename_i h24
        cases h
        exact mm_obj_sim hx hb ho hmls hts hown h24 e1 e2 mm_objW (by omega) (by omega) (k H locs ls hl hR)
      · cases h
    · cases h
  case h_16 =>
    split at h
    · rename_i A r ht
      split at h
      · rename_i hi
        split at h
        · rename_i res hcl
          have hm := hmono _ _ _ _ hcl
          have e8 : mm_nx (.inl (pc', L', S', σ')) = res.2 := mm_back_eq h
          have e9 : σ' = res.2 := e8
          subst e9
          have m1 := hm.1
          have m2 := hm.2.1
          have q1 : res.2.2.2.1 - n0 = σ.2.2.1 - n0 + (res.2.2.2.1 - σ.2.2.1) := by omega
          have q2 : res.2.2.2.2 - s0 = σ.2.2.2 - s0 + (res.2.2.2.2 - σ.2.2.2) := by omega
          rw [q1] at hcE k
          rw [q2] at hsE k
          refine mm_ran hR hm (mm_inv_run hx hb ho hts hown hEnv hmls hfr hlo hR hE.1 ht hi (fun t ht9 => hcall _ t _ _ _ hcl ht9) hcE hsE) (fun E ce q H1 locs1 hE1 hR1 hc1 hc2 hc3 => ?_) (fun o H1 locs1 ho1 hR1 => ?_)
          · obtain ⟨r1, r2⟩ := res
            dsimp only at hE1
            subst hE1
            simp only [mm_back] at h
            split at h
            · cases h
            · split at h
              · rename_i h9 len9 k9 hlk
                split at h
                · rename_i hk9
                  cases h
                  exact mm_caught hx hb ho hts hown hEnv htab hl hE.2 hlk hk9 hc1 hc2 hc3 (fun ls' hl' => k H1 locs1 ls' hl' hR1)
                · cases h
              · cases h
          · obtain ⟨r1, r2⟩ := res
            dsimp only at ho1
            subst ho1
            simp only [mm_back] at h
            cases h
            have k9 := k H1 locs1 ls hl hR1
            cases o with
            | none => exact k9
            | some v => exact k9
        · cases h
      · cases h
    · cases h
  case h_17 =>
    split at h
    · split at h <;> cases h
    · cases h
  case h_18 =>
    obtain ⟨rfl, idx, e1, e2⟩ := hE
    split at h
    · rename_i h1
      split at h
      · rename_i h24
        cases h
        have hq := mm_copy_same h1
        rw [hq.1, hq.2] at k
        exact mm_copy_sim hx hb ho hr hmls hts hown hEnv.1 hR hEnv.2.2.2.1 hR.2.1 h1 h24 e1 e2 mm_cpyW (by omega) (Nat.le_trans mm_nfw (by omega)) (fun H1 locs1 hR1 => k H1 locs1 ls hl hR1)
      · cases h
    · cases h
  case h_19 =>
    obtain ⟨rfl, idx, e1, e2⟩ := hE
    split at h
    · split at h
      · rename_i h24
        cases h
        exact va_mmax hx hb hmls hown (hts _ e2) (hts _ mm_maxW.1) (hts _ mm_maxW.2.1) (hts _ mm_maxW.2.2) (by omega) (by rw [mm_sum_v ho]; omega) hcE hsE e1 (k H locs ls hl hR)
      · cases h
    · cases h
  case h_20 =>
    obtain ⟨rfl, idx, e1, e2⟩ := hE
    split at h
    · split at h
      · rename_i h24
        cases h
        exact va_mmin hx hb hmls hown (hts _ e2) (hts _ mm_minW.1) (hts _ mm_maxW.2.1) (hts _ mm_minW.2) (by omega) (by rw [mm_sum_v ho]; omega) hcE hsE e1 (k H locs ls hl hR)
      · cases h
    · cases h
  case h_21 =>
    obtain ⟨rfl, idx, e1, e2, e3⟩ := hE
    split at h
    · rename_i h1
      split at h
      · rename_i h24
        cases h
        have hq := mm_clone_cnt h1
        have q1 : σ'.2.2.1 - n0 = σ.2.2.1 - n0 + 1 := by omega
        have q2 : σ'.2.2.2 - s0 = σ.2.2.2 - s0 + (σ'.2.2.2 - σ.2.2.2) := by omega
        rw [q1, q2] at k
        rw [q1] at hcE
        rw [q2] at hsE
        exact mm_clone_sim hx hb ho hr hmls hts hEnv.2.1 hown hEnv.1 hR h1 h24 e1 e2 e3 (by omega) (by omega) hcE hsE (fun H1 hR1 => k H1 locs ls hl hR1)
      · cases h
    · cases h
  case h_22 => cases h
end MMZ
end
section
theorem mm_args_len {rho : Nat → Nat} {opq : Nat → Value} (ho : mm_opq opq) : ∀ A : List Value, (lg_sl (A.map (mm_v rho opq))).length = (mm_args A).length
  | [] => rfl
  | v :: r => by
    have ih := mm_args_len (rho := rho) ho r
    unfold lg_sl at ih ⊢
    rw [List.map_cons, List.flatMap_cons, List.length_append, ih, mm_v_cat ho]
    simp only [mm_args]
    split
    · simp only [List.length_cons, List.length_nil]; omega
    · simp only [List.length_cons, List.length_nil]; omega
theorem mm_args_at {rho : Nat → Nat} {opq : Nat → Value} (ho : mm_opq opq) : ∀ (A : List Value) (k i : Nat) (v : Value), (mm_args A)[i]? = some (some v) → (k + i, mm_v rho opq v) ∈ lv_args k (A.map (mm_v rho opq))
  | [], _, i, _, h => by simp [mm_args] at h
  | w :: r, k, i, v, h => by
    rw [List.map_cons, lv_args, mm_v_cat ho]
    simp only [mm_args] at h
    split at h
    · rename_i hc
      rw [if_pos hc]
      match i, h with
      | 0, h => cases h; exact List.mem_cons_self
      | 1, h => cases h
      | i + 2, h =>
        have h9 := mm_args_at (rho := rho) ho r (k + 2) i v h
        rw [show k + (i + 2) = k + 2 + i by omega]
        exact List.mem_cons_of_mem _ h9
    · rename_i hc
      rw [if_neg hc]
      match i, h with
      | 0, h => cases h; exact List.mem_cons_self
      | i + 1, h =>
        have h9 := mm_args_at (rho := rho) ho r (k + 1) i v h
        rw [show k + (i + 1) = k + 1 + i by omega]
        exact List.mem_cons_of_mem _ h9
theorem mm_entry_lh {rho : Nat → Nat} {opq : Nat → Value} (ho : mm_opq opq) {A : List Value} {nL : Nat} (h : (mm_args A).length ≤ nL) : mm_lh rho opq ((lg_sl (A.map (mm_v rho opq)) ++ List.replicate (nL - (lg_sl (A.map (mm_v rho opq))).length) Slot.unset).toArray) nL (mm_entry A nL) := by
  have h0 := lv_entry (A.map (mm_v rho opq)) (n := nL) (by rw [mm_args_len ho]; exact h)
  refine ⟨h0.1, h0.2.1, ?_, fun i v hi => ?_⟩
  · unfold mm_entry
    rw [List.length_append, List.length_replicate]
    omega
  · have h1 : (mm_args A)[i]? = some (some v) := by
      unfold mm_entry at hi
      by_cases hlt : i < (mm_args A).length
      · rw [List.getElem?_append_left hlt] at hi
        exact hi
      · rw [List.getElem?_append_right (by omega), List.getElem?_replicate] at hi
        split at hi <;> cases hi
    have h2 := mm_args_at (rho := rho) ho A 0 i v h1
    rw [Nat.zero_add] at h2
    exact h0.2.2 _ h2
section MMY
variable {p : Program} {l : Launch} {e : Env} {R : Room} {s : State} {m : MethodId} {args : Array Value} {below : List Frame} {meth : Method} {c : Code} {H : Heap} {locs : List Loc}
variable {cc : ByteArray} {pc len : Nat} {ls : Array Slot} {rho : Nat → Nat} {opq : Nat → Value} {cA : Nat → ClassId} {D : va_G} {B : Nat} {P : mm_P} {σ : mm_H} {stn : Nat → String × String × String} {sts : String → Nat → Option (Nat × String)} {own yn : String} {hh : List (Nat × Nat × Nat × Nat)} {ret : Option FieldType} {nL d n0 s0 : Nat} {MT : Nat → Option mm_M} {call : Nat → List Value → mm_H → Option mm_R}
theorem mm_step_end {op : mm_Op} {L : mm_L} {S : List Value} {res : mm_R} (C : mm_fr P stn sts rho opq cA D B p l s m args meth c R own yn cc hh ret nL d) (hmono : ∀ y A σ r, call y A σ = some r → mm_mono σ r.2) (hcall : ∀ y t A σ r, call y A σ = some r → MT y = some t → mm_Con l P stn sts rho opq cA D B t d A σ r)
    (h : mm_step P call op pc len L S σ = some (.inr res)) (hE : mm_opE P MT stn sts own yn cc hh ret pc len op) (hn : n0 ≤ σ.2.2.1) (hs0 : s0 ≤ σ.2.2.2) (hcE : res.2.2.2.1 - n0 ≤ R.cells) (hsE : res.2.2.2.2 - s0 ≤ R.slots) (hl : mm_lh rho opq ls nL L) (hR : mm_rel rho opq cA D B s σ H locs (σ.2.2.1 - n0)) :
    W p l e R s m args below meth c H locs (σ.2.2.1 - n0) (σ.2.2.2 - s0) (vx_MQ below (mm_Qc rho opq cA D B res) (mm_XC rho opq cA D B res) args s (res.2.2.2.1 - n0) (res.2.2.2.2 - s0) (fun q => B ≤ q)) (F0 m pc ls (S.map (mm_v rho opq))) := by
  obtain ⟨hx, hb, hrt, hlocks, hts, hown, hyn, hml, htab, hEnv, hst, ho, hr, hfr, hlo⟩ := id C
  have hmls : c.maxLocals = ls.size := hml.trans hl.1.symm
  unfold mm_step at h
  split at h
  case h_5 =>
    split at h
    · rename_i o h1
      cases h
      refine vx_ret ?_
      exact mm_ret_sim hx hb hrt hlocks h1 hE.1 hE.2.1 hE.2.2 (fun t ht hW => ⟨⟨o, rfl, rfl⟩, mm_pre_of hR ht, hR.2.1.F ht⟩) hR.2.1.2.2
    · cases h
  case h_16 =>
    split at h
    · rename_i A r ht
      split at h
      · rename_i hi
        split at h
        · rename_i res9 hcl
          have hm := hmono _ _ _ _ hcl
          have e8 : mm_nx (.inr res) = res9.2 := mm_back_eq h
          have e9 : res.2 = res9.2 := e8
          have m1 := hm.1
          have m2 := hm.2.1
          rw [e9] at hcE hsE ⊢
          have q1 : res9.2.2.2.1 - n0 = σ.2.2.1 - n0 + (res9.2.2.2.1 - σ.2.2.1) := by omega
          have q2 : res9.2.2.2.2 - s0 = σ.2.2.2 - s0 + (res9.2.2.2.2 - σ.2.2.2) := by omega
          rw [q1] at hcE ⊢
          rw [q2] at hsE ⊢
          refine mm_ran hR hm (mm_inv_run hx hb ho hts hown hEnv hmls hfr hlo hR hE.1 ht hi (fun t ht9 => hcall _ t _ _ _ hcl ht9) hcE hsE) (fun E ce q H1 locs1 hE1 hR1 hc1 hc2 hc3 => ?_) (fun o H1 locs1 ho1 hR1 => ?_)
          · obtain ⟨r1, r2⟩ := res9
            dsimp only at hE1
            subst hE1
            simp only [mm_back] at h
            split at h
            · rename_i hs9 hnil
              cases h
              exact mm_outs htab (hE.2.1 rfl) hlocks hR1 hc1 hc2 hc3 (Nat.le_refl _) (Nat.le_refl _)
            · split at h
              · split at h <;> cases h
              · cases h
          · obtain ⟨r1, r2⟩ := res9
            dsimp only at ho1
            subst ho1
            simp only [mm_back] at h
            cases h
        · cases h
      · cases h
    · cases h
  case h_17 =>
    split at h
    · split at h
      · rename_i h24
        cases h
        have q1 : σ.2.2.1 + 1 - n0 = σ.2.2.1 - n0 + 1 := by omega
        have q2 : σ.2.2.2 + 6 - s0 = σ.2.2.2 - s0 + 6 := by omega
        dsimp only at hcE hsE ⊢
        rw [q1] at hcE ⊢
        rw [q2] at hsE ⊢
        exact mm_thr_sim hx hb ho hst hlocks hts hown hEnv hmls htab (by omega) (by omega) hR (hE _ _ _ rfl) h24 hcE hsE (Nat.le_refl _) (Nat.le_refl _)
      · cases h
    · cases h
  all_goals
    first
      | (cases h; done)
      | (split at h <;> first | (cases h; done) | (split at h <;> first | (cases h; done) | (split at h <;> cases h)))
theorem mm_go_sim {code : mm_Code} {res : mm_R} (C : mm_fr P stn sts rho opq cA D B p l s m args meth c R own yn cc hh ret nL d) (hmono : ∀ y A σ r, call y A σ = some r → mm_mono σ r.2) (hcall : ∀ y t A σ r, call y A σ = some r → MT y = some t → mm_Con l P stn sts rho opq cA D B t d A σ r)
    (hcode : ∀ pc len op, code.lookup pc = some (len, op) → mm_opE P MT stn sts own yn cc hh ret pc len op) (hcE : res.2.2.2.1 - n0 ≤ R.cells) (hsE : res.2.2.2.2 - s0 ≤ R.slots) :
    ∀ (n pc : Nat) (L : mm_L) (S : List Value) (σ : mm_H) (H : Heap) (locs : List Loc) (ls : Array Slot), mm_go P call code n pc L S σ = some res → n0 ≤ σ.2.2.1 → s0 ≤ σ.2.2.2 → mm_lh rho opq ls nL L → mm_rel rho opq cA D B s σ H locs (σ.2.2.1 - n0) →
      W p l e R s m args below meth c H locs (σ.2.2.1 - n0) (σ.2.2.2 - s0) (vx_MQ below (mm_Qc rho opq cA D B res) (mm_XC rho opq cA D B res) args s (res.2.2.2.1 - n0) (res.2.2.2.2 - s0) (fun q => B ≤ q)) (F0 m pc ls (S.map (mm_v rho opq))) := by
  intro n
  induction n with
  | zero => intro pc L S σ H locs ls h; cases h
  | succ n ih =>
    intro pc L S σ H locs ls h hn hs0 hl hR
    simp only [mm_go] at h
    split at h
    · rename_i len op hlk
      have hE := hcode pc len op hlk
      split at h
      · rename_i pc' L' S' σ' h1
        have m1 := mm_step_mono hmono h1
        have m2 := mm_go_mono hmono h
        have k1 : σ.2.2.1 ≤ σ'.2.2.1 := m1.1
        have k2 : σ.2.2.2 ≤ σ'.2.2.2 := m1.2.1
        have k3 := m2.1
        have k4 := m2.2.1
        exact mm_step_next C hmono hcall h1 hE hn hs0 (by omega) (by omega) hl hR (fun H1 locs1 ls1 hl1 hR1 => ih pc' L' S' σ' H1 locs1 ls1 h (by omega) (by omega) hl1 hR1)
      · rename_i r9 h1
        cases h
        exact mm_step_end C hmono hcall h1 hE hn hs0 hcE hsE hl hR
      · cases h
    · cases h
end MMY
/-- a method's row of the table is right -/
def mm_tabE (P : mm_P) (MT : Nat → Option mm_M) (stn : Nat → String × String × String) (sts : String → Nat → Option (Nat × String)) (t : mm_M) : Prop := plainName t.2.2.1.cls = true ∧ ∀ pc len op, t.1.lookup pc = some (len, op) → mm_opE P MT stn sts t.2.2.1.cls t.2.2.1.name t.2.2.2.1 t.2.2.2.2.2 t.2.2.2.2.1 pc len op
theorem mm_run_sim {l : Launch} {P : mm_P} {MT : Nat → Option mm_M} {stn : Nat → String × String × String} {sts : String → Nat → Option (Nat × String)} {rho : Nat → Nat} {opq : Nat → Value} {cA : Nat → ClassId} {D : va_G} {B N : Nat} (hst : l.stackTraces = false) (ho : mm_opq opq) (hr : mm_rho rho B) (htab : ∀ y t, MT y = some t → mm_tabE P MT stn sts t) :
    ∀ (d y : Nat) (t : mm_M) (A : List Value) (σ : mm_H) (res : mm_R), mm_run P (fun y => (MT y).map (fun t => (t.1, t.2.1))) N d y A σ = some res → MT y = some t → mm_Con l P stn sts rho opq cA D B t d A σ res := by
  intro d
  induction d with
  | zero => intro y t A σ res h; cases h
  | succ d ih =>
    intro y t A σ res h ht
    obtain ⟨hpl, hops⟩ := htab y t ht
    simp only [mm_run, ht, Option.map_some] at h
    split at h
    · rename_i hlen
      have hcall : ∀ y t A σ r, mm_run P (fun y => (MT y).map (fun t => (t.1, t.2.1))) N d y A σ = some r → MT y = some t → mm_Con l P stn sts rho opq cA D B t d A σ r := fun y t A σ r h1 h2 => ih y t A σ r h1 h2
      have hmono : ∀ y A σ r, mm_run P (fun y => (MT y).map (fun t => (t.1, t.2.1))) N d y A σ = some r → mm_mono σ r.2 := fun y A σ r h1 => mm_run_mono h1
      obtain ⟨code, nL, Y, bytes, ret, hh⟩ := t
      have body : ∀ (p : Program) (e : Env) (s : State) (m : MethodId) (args : Array Value) (below : List Frame) (meth : Method) (c : Code) (R : Room), mm_Pc P stn sts rho opq cA D B A σ args s → p.tables.exec = Jvm.exec → c.code = bytes → meth.sig.returnType = ret → meth.locks = false → (∀ w ∈ mm_gw, w.before args s = true) → s.vm.findClass Y.cls = some m.cls → meth.name = Y.name → c.maxLocals = nL → c.exceptionTable.toList = tableOf hh → R = mm_rm (d + 1) (res.2.2.2.1 - σ.2.2.1) (res.2.2.2.2 - σ.2.2.2) →
          W p l e R s m args below meth c s.heap [] 0 0 (vx_MQ below (mm_Qc rho opq cA D B res) (mm_XC rho opq cA D B res) args s (res.2.2.2.1 - σ.2.2.1) (res.2.2.2.2 - σ.2.2.2) (fun q => B ≤ q)) (entryFrame m args nL) := by
        intro p e s m args below meth c R hP hx hb hrt hlk hgw hown hnm hml htb hR
        obtain ⟨rfl, hEnv, hp1, hp2, hp3, hp4⟩ := hP
        subst hR
        have C : mm_fr P stn sts rho opq cA D B p l s m (A.map (mm_v rho opq)).toArray meth c (mm_rm (d + 1) (res.2.2.2.1 - σ.2.2.1) (res.2.2.2.2 - σ.2.2.2)) Y.cls Y.name bytes hh ret nL d :=
          ⟨hx, hb, hrt, hlk, mm_words hgw hEnv.2.1, hown, fun z => hnm.trans z, hml, htb, hEnv, hst, ho, hr, Nat.le_refl _, Nat.le_refl _⟩
        rw [lg_entry_eq]
        have hl := mm_entry_lh (rho := rho) ho hlen
        have hR : mm_rel rho opq cA D B s σ s.heap [] (σ.2.2.1 - σ.2.2.1) := ⟨hp1, va_S.rf, fun hc => ⟨hp2 hc, by omega⟩, hp3, hp4⟩
        have key := mm_go_sim (e := e) (below := below) (n0 := σ.2.2.1) (s0 := σ.2.2.2) (res := res) C hmono hcall hops (Nat.le_refl _) (Nat.le_refl _) N 0 (mm_entry A nL) [] σ s.heap [] _ h (Nat.le_refl _) (Nat.le_refl _) hl hR
        rw [Nat.sub_self, Nat.sub_self] at key
        exact key
      cases hh with
      | nil =>
        refine vx_ofW (cc := bytes) (maxL := nL) (ret := ret) hpl rfl ?_
        intro p e s m args below meth c s₁ Bd hml hno hv
        have hatoms := atoms_spec (ws := mm_cw (code, nL, Y, bytes, ret, []) :: mm_gw) Bd.pre
        refine body p e s m args below meth c _ hv Bd.exec Bd.bytes Bd.returns Bd.notSynchronized (fun w hw => hatoms w (List.mem_cons_of_mem _ hw)) (findClass_of_methodNamed Bd.named) (name_of_methodNamed Bd.named Bd.method).1 hml ?_ rfl
        cases hq : c.exceptionTable.toList with
        | nil => rfl
        | cons x r => exact (hno x (by rw [hq]; exact List.mem_cons_self)).elim
      | cons x r =>
        refine vx_ofWH (cc := bytes) (maxL := nL) (ret := ret) (hh := x :: r) hpl rfl ?_
        intro p e s m args below meth c s₁ Bd hml hv
        have hatoms := atoms_spec (ws := mm_cw (code, nL, Y, bytes, ret, x :: r) :: mm_gw) Bd.pre
        exact body p e s m args below meth c _ hv Bd.exec Bd.bytes Bd.returns Bd.notSynchronized (fun w hw => hatoms w (List.mem_cons_of_mem _ hw)) (findClass_of_methodNamed Bd.named) (name_of_methodNamed Bd.named Bd.method).1 hml (vx_table (x := Y) Bd (hatoms _ List.mem_cons_self)) rfl
    · cases h
end
section
/-! a program that checks a method's row of the table -/
def mm_has (i : Nat) (w : Cond) : Bool := decide (lx_tbl[i]? = some w) && (goodWord w || mm_nest w)
theorem mm_has_T {i : Nat} {w : Cond} (h : mm_has i w = true) : w ∈ mm_T := by
  simp only [mm_has, Bool.and_eq_true, decide_eq_true_eq] at h
  exact List.mem_filter.mpr ⟨List.mem_of_getElem? h.1, h.2⟩
def mm_isd (cc : ByteArray) (pc : Nat) (i : Instr) (len : Nat) : Bool := match decode cc pc with
  | .ok (j, n) => decide (j = i) && n == len
  | _ => false
theorem mm_isd_ok {cc : ByteArray} {pc : Nat} {i : Instr} {len : Nat} (h : mm_isd cc pc i len = true) : decode cc pc = .ok (i, len) := by
  unfold mm_isd at h
  split at h
  · rename_i j n e
    simp only [Bool.and_eq_true, beq_iff_eq, decide_eq_true_eq] at h
    rw [e, h.1, h.2]
  · cases h
/-- tables that the checks lean on: fields, exceptions' class links; methods' own facts -/
def mm_fB (own : String) (idx ci k pos : Nat) : Bool := match vwCl[ci]? with
  | some (_, T, N) => decide (k < N) && mm_has pos (Cond.fieldLink own idx (T k).1 (T k).2.1 (T k).2.2.1)
  | none => false
theorem mm_fB_ok {own : String} {idx ci k pos : Nat} (h : mm_fB own idx ci k pos = true) : mm_fE own idx ci k := by
  unfold mm_fB at h
  split at h
  · rename_i C T N e
    simp only [Bool.and_eq_true, decide_eq_true_eq] at h
    exact ⟨C, T, N, e, h.1, Or.inl (mm_has_T h.2)⟩
  · cases h
def mm_wB (own yn : String) (idx ci k pos : Nat) (ty : FieldType) : Bool := match vwCl[ci]? with
  | some (_, T, N) => decide (k < N) && mm_has pos (Cond.fieldLink own idx (T k).1 (T k).2.1 (T k).2.2.1) && decide (parseFieldDescriptor (T k).2.2.1 = some ty) && (!(T k).2.2.2 || (yn == "<init>" && (T k).1 == own))
  | none => false
theorem mm_wB_ok {own yn : String} {idx ci k pos : Nat} {ty : FieldType} (h : mm_wB own yn idx ci k pos ty = true) : mm_fW own yn idx ci k ty := by
  unfold mm_wB at h
  split at h
  · rename_i C T N e
    simp only [Bool.and_eq_true, Bool.or_eq_true, decide_eq_true_eq, Bool.not_eq_true', beq_iff_eq] at h
    obtain ⟨⟨⟨h1, h2⟩, h3⟩, h4⟩ := h
    refine ⟨C, T, N, e, h1, h3, ?_⟩
    cases hf : (T k).2.2.2 with
    | false => exact Or.inl ⟨rfl, Or.inl (mm_has_T h2)⟩
    | true =>
      rcases h4 with h4 | h4
      · rw [hf] at h4; cases h4
      · exact Or.inr ⟨rfl, h4.1, h4.2, mm_has_T h2⟩
  · cases h
def mm_kB (own : String) (cc : ByteArray) (pc len : Nat) (v : Value) (idx pos : Nat) : Bool := match v with
  | .int x => mm_has pos (Cond.constant own idx x) && ((mm_isd cc pc (.ldc idx) 2 && len == 2) || (mm_isd cc pc (.ldc_w idx) 3 && len == 3))
  | .long x => mm_has pos (Cond.constantLong own idx x) && mm_isd cc pc (.ldc2_w idx) 3 && len == 3
  | .double x => mm_has pos (Cond.constantDouble own idx x) && mm_isd cc pc (.ldc2_w idx) 3 && len == 3
  | _ => false
theorem mm_kB_ok {own : String} {cc : ByteArray} {pc len : Nat} {v : Value} {idx pos : Nat} (h : mm_kB own cc pc len v idx pos = true) : mm_kE own cc pc len v := by
  unfold mm_kB at h
  split at h
  · rename_i x
    simp only [Bool.and_eq_true, Bool.or_eq_true, beq_iff_eq] at h
    refine Or.inl ⟨idx, x, rfl, mm_has_T h.1, ?_⟩
    rcases h.2 with h2 | h2
    · exact Or.inl ⟨mm_isd_ok h2.1, h2.2⟩
    · exact Or.inr ⟨mm_isd_ok h2.1, h2.2⟩
  · rename_i x
    simp only [Bool.and_eq_true, beq_iff_eq] at h
    exact Or.inr (Or.inl ⟨idx, x, rfl, mm_has_T h.1.1, mm_isd_ok h.1.2, h.2⟩)
  · rename_i x
    simp only [Bool.and_eq_true, beq_iff_eq] at h
    exact Or.inr (Or.inr ⟨idx, x, rfl, mm_has_T h.1.1, mm_isd_ok h.1.2, h.2⟩)
  · cases h
def mm_rB (a : Nat) (i : Instr) (ret : Option FieldType) : Bool := match i with
  | .ireturn => decide (ret = some (mm_rt a))
  | .lreturn => decide (ret = some .long)
  | .dreturn => decide (ret = some .double)
  | .areturn => (match ret with
    | some (.object _) => true
    | some (.array _) => true
    | _ => false)
  | .return_ => decide (ret = none)
  | _ => false
theorem mm_rB_ok {a : Nat} {i : Instr} {ret : Option FieldType} (h : mm_rB a i ret = true) : mm_rE a i ret := by
  cases i <;> simp only [mm_rB, decide_eq_true_eq, Bool.false_eq_true] at h
  case ireturn => exact h
  case lreturn => exact h
  case dreturn => exact h
  case return_ => exact h
  case areturn =>
    split at h
    · exact Or.inl ⟨_, rfl⟩
    · exact Or.inr ⟨_, rfl⟩
    · cases h
/-- a new object's first values: rT its class's field types -/
def mm_nB (own : String) (idx ci : Nat) (fs : List Value) (p1 p2 p3 : Nat) : Bool := match vwCl[ci]? with
  | some (C, T, N) => decide (fs.length = N) && (List.range N).all (fun k => decide ((parseFieldDescriptor (T k).2.2.1).map defaultValue = some (fs.getD k .null))) && fs.all mm_plain && mm_has p1 (Cond.classLink own idx C) && mm_has p2 (Cond.instantiable C N) && mm_has p3 (Cond.initialized C)
  | none => false
theorem mm_nB_ok {own : String} {idx ci : Nat} {fs : List Value} {p1 p2 p3 : Nat} (h : mm_nB own idx ci fs p1 p2 p3 = true) : mm_nE own idx ci fs := by
  unfold mm_nB at h
  split at h
  · rename_i C T N e
    simp only [Bool.and_eq_true, decide_eq_true_eq, List.all_eq_true, List.mem_range] at h
    obtain ⟨⟨⟨⟨⟨h1, h2⟩, h3⟩, h4⟩, h5⟩, h6⟩ := h
    obtain ⟨-, ⟨ty0, f2⟩, -⟩ := mm_cls e
    refine ⟨C, T, N, ty0, e, f2, h1, fun k hk => ?_, List.all_eq_true.mpr h3, mm_has_T h4, mm_has_T h5, mm_has_T h6⟩
    have h9 := h2 k hk
    rw [f2 k hk, Option.map_some] at h9
    exact Option.some.inj h9
  · cases h
def mm_tB (sts : String → Nat → Option (Nat × String)) (own : String) (cc : ByteArray) (hh : List (Nat × Nat × Nat × Nat)) (pc : Nat) (E : String) (ik is ic : Nat) (TX : List (String × Nat × Nat × String)) : Bool :=
  TX.contains (own, ik, ic, E) && (sts own is).isSome && mm_isd cc pc (.new ik) 3 && mm_isd cc (pc + 3) .dup 1 &&
  ((mm_isd cc (pc + 4) (.ldc is) 2 && mm_isd cc (pc + 6) (.invokespecial ic) 3 && mm_isd cc (pc + 9) .athrow 1 && (tableOf hh).all (fun x => !covers x (pc + 9))) ||
   (mm_isd cc (pc + 4) (.ldc_w is) 3 && mm_isd cc (pc + 7) (.invokespecial ic) 3 && mm_isd cc (pc + 10) .athrow 1 && (tableOf hh).all (fun x => !covers x (pc + 10))))
/-- the rows of throws: own class, new's entry, the constructor's entry, the class -/
def mm_TXok (TX : List (String × Nat × Nat × String)) : Prop := ∀ q ∈ TX, Cond.classLink q.1 q.2.1 q.2.2.2 ∈ mm_T ∧ Cond.initialized q.2.2.2 ∈ mm_T ∧ (∀ w ∈ vx_atS q.1 q.2.2.1 q.2.2.2 ["java/lang/RuntimeException", "java/lang/Exception"], w ∈ mm_T) ∧ Bundle.fit q.2.2.2 = true
theorem mm_tB_ok {sts : String → Nat → Option (Nat × String)} {own : String} {cc : ByteArray} {hh : List (Nat × Nat × Nat × Nat)} {pc : Nat} {E : String} {ik is ic : Nat} {TX : List (String × Nat × Nat × String)} (hT : mm_TXok TX) (h : mm_tB sts own cc hh pc E ik is ic TX = true) : mm_tE sts own cc hh pc E := by
  simp only [mm_tB, Bool.and_eq_true, Bool.or_eq_true, List.contains_iff_mem, List.all_eq_true, Bool.not_eq_true'] at h
  obtain ⟨⟨⟨⟨h1, h2⟩, h3⟩, h4⟩, h5⟩ := h
  obtain ⟨g1, g2, g3, g4⟩ := hT _ h1
  obtain ⟨⟨sid, tx⟩, hs⟩ := Option.isSome_iff_exists.mp h2
  refine ⟨ik, is, ic, sid, tx, g1, g2, hs, g3, g4, mm_isd_ok h3, mm_isd_ok h4, ?_⟩
  rcases h5 with ⟨⟨⟨a1, a2⟩, a3⟩, a4⟩ | ⟨⟨⟨a1, a2⟩, a3⟩, a4⟩
  · exact Or.inl ⟨mm_isd_ok a1, mm_isd_ok a2, mm_isd_ok a3, a4⟩
  · exact Or.inr ⟨mm_isd_ok a1, mm_isd_ok a2, mm_isd_ok a3, a4⟩
/-- handlers -/
def mm_aB (cc : ByteArray) (h len k : Nat) : Bool := (mm_isd cc h (.astore k) 2 && len == 2) || (match k with
  | 0 => mm_isd cc h (.astore_n 0) 1 && len == 1
  | 1 => mm_isd cc h (.astore_n 1) 1 && len == 1
  | 2 => mm_isd cc h (.astore_n 2) 1 && len == 1
  | 3 => mm_isd cc h (.astore_n 3) 1 && len == 1
  | _ => false)
theorem mm_aB_ok {cc : ByteArray} {h len k : Nat} (hh : mm_aB cc h len k = true) : mm_astore cc h len k := by
  simp only [mm_aB, Bool.or_eq_true, Bool.and_eq_true, beq_iff_eq] at hh
  rcases hh with hh | hh
  · exact Or.inl ⟨mm_isd_ok hh.1, hh.2⟩
  · split at hh
    · simp only [Bool.and_eq_true, beq_iff_eq] at hh; exact Or.inr ⟨0, rfl, mm_isd_ok hh.1, hh.2⟩
    · simp only [Bool.and_eq_true, beq_iff_eq] at hh; exact Or.inr ⟨1, rfl, mm_isd_ok hh.1, hh.2⟩
    · simp only [Bool.and_eq_true, beq_iff_eq] at hh; exact Or.inr ⟨2, rfl, mm_isd_ok hh.1, hh.2⟩
    · simp only [Bool.and_eq_true, beq_iff_eq] at hh; exact Or.inr ⟨3, rfl, mm_isd_ok hh.1, hh.2⟩
    · cases hh
/-- class links of exceptions, castable to themselves -/
def mm_XLok (XL : List (String × Nat × String)) : Prop := ∀ q ∈ XL, Cond.classLink q.1 q.2.1 q.2.2 ∈ mm_T ∧ Cond.castable q.2.2 q.2.2 ∈ mm_T ∧ q.2.2 ∈ mm_ex
/-- the first row of the table that takes E: the rows ahead don't cover, or name another exception -/
def mm_h1B (XL : List (String × Nat × String)) (own : String) (pc : Nat) (E : String) (h : Nat) : List ExceptionTableEntry → Bool
  | [] => false
  | x :: r => (covers x pc && x.catchType != 0 && XL.contains (own, x.catchType, E) && x.handlerPc == h) ||
    ((!covers x pc || (x.catchType != 0 && mm_ex.contains E && mm_ex.any (fun nm => nm != E && XL.contains (own, x.catchType, nm)))) && mm_h1B XL own pc E h r)
theorem mm_h1B_ok {XL : List (String × Nat × String)} (hX : mm_XLok XL) {own : String} {pc : Nat} {E : String} {h : Nat} : ∀ {T : List ExceptionTableEntry}, mm_h1B XL own pc E h T = true → ∃ (pre : List ExceptionTableEntry) (x : ExceptionTableEntry) (suf : List ExceptionTableEntry) (name : String), T = pre ++ x :: suf ∧
    (∀ z ∈ pre, covers z pc = false ∨ (z.catchType ≠ 0 ∧ ∃ nm : String, Cond.classLink own z.catchType nm ∈ mm_T ∧ E ∈ mm_ex ∧ nm ∈ mm_ex ∧ E ≠ nm)) ∧
    covers x pc = true ∧ x.catchType ≠ 0 ∧ Cond.classLink own x.catchType name ∈ mm_T ∧ Cond.castable E name ∈ mm_T ∧ x.handlerPc = h
  | [], hh => by cases hh
  | x :: r, hh => by
    rw [mm_h1B, Bool.or_eq_true] at hh
    rcases hh with hh | hh
    · simp only [Bool.and_eq_true, bne_iff_ne, List.contains_iff_mem, beq_iff_eq] at hh
      obtain ⟨⟨⟨h1, h2⟩, h3⟩, h4⟩ := hh
      obtain ⟨g1, g2, -⟩ := hX _ h3
      exact ⟨[], x, r, E, rfl, (fun z hz => by cases hz), (by rw [Bool.and_eq_true]; exact h1), h2, g1, g2, h4⟩
    · rw [Bool.and_eq_true] at hh
      obtain ⟨hh, hr⟩ := hh
      obtain ⟨pre, y, suf, name, e1, e2, e3⟩ := mm_h1B_ok hX hr
      refine ⟨x :: pre, y, suf, name, by rw [e1]; rfl, fun z hz => ?_, e3⟩
      rcases List.mem_cons.mp hz with rfl | hz
      · rw [Bool.or_eq_true] at hh
        rcases hh with hh | hh
        · left
          rw [Bool.not_eq_true'] at hh
          exact hh
        · right
          simp only [Bool.and_eq_true, bne_iff_ne, List.contains_iff_mem, List.any_eq_true] at hh
          obtain ⟨⟨h1, h2⟩, nm, h3, h4, h5⟩ := hh
          exact ⟨h1, nm, (hX _ h5).1, h2, h3, fun q => h4 q.symm⟩
      · exact e2 z hz
def mm_hB (XL : List (String × Nat × String)) (own : String) (cc : ByteArray) (hh : List (Nat × Nat × Nat × Nat)) (pc : Nat) (hs : List (String × Nat × Nat × Nat)) : Bool :=
  (hs != [] || (tableOf hh).all (fun x => !covers x pc)) && hs.all (fun q => mm_h1B XL own pc q.1 q.2.1 (tableOf hh) && mm_aB cc q.2.1 q.2.2.1 q.2.2.2)
theorem mm_lookup_mem {α β : Type} [BEq α] [LawfulBEq α] {a : α} {b : β} : ∀ {l : List (α × β)}, l.lookup a = some b → (a, b) ∈ l
  | [], h => by cases h
  | (x, y) :: r, h => by
    rw [List.lookup_cons] at h
    split at h
    · rename_i e
      cases h
      rw [eq_of_beq e]
      exact List.mem_cons_self
    · exact List.mem_cons_of_mem _ (mm_lookup_mem h)
theorem mm_hB_ok {XL : List (String × Nat × String)} (hX : mm_XLok XL) {own : String} {cc : ByteArray} {hh : List (Nat × Nat × Nat × Nat)} {pc : Nat} {hs : List (String × Nat × Nat × Nat)} (h : mm_hB XL own cc hh pc hs = true) : mm_hE own cc hh pc hs := by
  rw [mm_hB, Bool.and_eq_true, Bool.or_eq_true] at h
  obtain ⟨h1, h2⟩ := h
  refine ⟨fun e x hx => ?_, fun E h9 len k hlk => ?_⟩
  · rcases h1 with h1 | h1
    · rw [e] at h1; cases h1
    · have h3 := List.all_eq_true.mp h1 x hx
      rw [Bool.not_eq_true'] at h3
      exact h3
  · have h3 := List.all_eq_true.mp h2 _ (mm_lookup_mem hlk)
    rw [Bool.and_eq_true] at h3
    obtain ⟨pre, x, suf, name, e1, e2, e3, e4, e5, e6, e7⟩ := mm_h1B_ok hX h3.1
    exact ⟨pre, x, suf, name, e1, e2, e3, e4, e5, e6, e7, mm_aB_ok h3.2⟩
/-- a method's own facts: its words' places in the tables (code, initialized, static or instance), how many parameters -/
def mm_mB (t : mm_M) (p2 p3 : Nat) (st : Bool) (np : Nat) : Bool := decide (t.2.1 ≤ 30) && mm_has p2 (Cond.initialized t.2.2.1.cls) && t.2.2.1.cls != "java/lang/invoke/MethodHandle" && t.2.2.1.cls != "java/lang/invoke/VarHandle" && mm_has p3 (if st then Cond.static t.2.2.1 else Cond.instanceMethod t.2.2.1) && plainName t.2.2.1.cls && decide ((parseMethodDescriptor t.2.2.1.desc).map (fun d => d.parameters.length) = some np)
def mm_mE (t : mm_M) (st : Bool) (np : Nat) : Prop := mm_cw t ∈ mm_gw ∧ t.2.1 ≤ 30 ∧ Cond.initialized t.2.2.1.cls ∈ mm_T ∧ (t.2.2.1.cls ≠ "java/lang/invoke/MethodHandle" ∧ t.2.2.1.cls ≠ "java/lang/invoke/VarHandle") ∧ (if st then Cond.static t.2.2.1 else Cond.instanceMethod t.2.2.1) ∈ mm_T ∧ plainName t.2.2.1.cls = true ∧ (parseMethodDescriptor t.2.2.1.desc).map (fun d => d.parameters.length) = some np
theorem mm_mB_ok {t : mm_M} {p2 p3 np : Nat} {st : Bool} (hw : mm_cw t ∈ mm_gw) (h : mm_mB t p2 p3 st np = true) : mm_mE t st np := by
  simp only [mm_mB, Bool.and_eq_true, decide_eq_true_eq, bne_iff_ne] at h
  obtain ⟨⟨⟨⟨⟨⟨h3, h4⟩, h5⟩, h6⟩, h7⟩, h8⟩, h9⟩ := h
  exact ⟨hw, h3, mm_has_T h4, ⟨h5, h6⟩, mm_has_T h7, h8, h9⟩
theorem mm_gw_of {w : Cond} {i : Nat} (h : tables_1[i]? = some w) (hg : goodWord w = true) : w ∈ mm_gw := List.mem_filter.mpr ⟨List.mem_append_right _ (List.mem_of_getElem? h), hg⟩
end
section
/-! the check of a whole method. Q: the program's tables but the old arrays; stf, npf: static or not, how many parameters -/
abbrev mm_Q : Type := (Nat → Nat → Option Value) × (Nat → Option Value) × (Nat → Option Value) × (Nat → Option (List Value)) × (Nat → Nat → Option FieldType)
def mm_iB (MT : Nat → Option mm_M) (stf : Nat → Bool) (npf : Nat → Nat) (own : String) (cc : ByteArray) (pc a b ci d idx pl ps : Nat) : Bool := match MT a with
  | none => false
  | some t => (match d with
    | 0 => !stf a && b == npf a + 1 && mm_isd cc pc (.invokevirtual idx) 3 && mm_has pl (Cond.methodLink own idx t.2.2.1) && (if ci = 100 then mm_has ps (Cond.selects "java/lang/String" t.2.2.1 t.2.2.1) else (match vwCl[ci]? with
      | some (C, _, _) => mm_has ps (Cond.selects C t.2.2.1 t.2.2.1)
      | none => false))
    | 1 => stf a && b == npf a && mm_isd cc pc (.invokestatic idx) 3 && (mm_has pl (Cond.methodLink own idx t.2.2.1) || (t.2.2.2.2.2 == [] && mm_has pl (Cond.methodLinkNest own idx t.2.2.1 "DecisionDiagrams")))
    | 2 => !stf a && b == npf a + 1 && mm_isd cc pc (.invokespecial idx) 3 && t.2.2.1.name == "<init>" && decide (t.2.2.2.2.1 = none) && t.2.2.2.2.2 == [] && (mm_has pl (Cond.methodLink own idx t.2.2.1) || mm_has pl (Cond.methodLinkNest own idx t.2.2.1 "DecisionDiagrams"))
    | 3 => !stf a && b == npf a + 1 && mm_isd cc pc (.invokevirtual idx) 3 && t.2.2.2.2.2 == [] && mm_has pl (Cond.methodLink own idx mm_zn) && mm_has ps (Cond.selects RJ4 mm_zn t.2.2.1) && ci == 12 && npf a == 0
    | 4 => !stf a && b == npf a + 1 && mm_isd cc pc (.invokespecial idx) 3 && !(t.2.2.1.name == "<init>") && t.2.2.2.2.2 == [] && mm_has pl (Cond.methodLink own idx t.2.2.1) && mm_has ps (Cond.sameMethod t.2.2.1.cls t.2.2.1.cls t.2.2.1.name t.2.2.1.desc) && decide (Cond.superclass own t.2.2.1.cls ∈ mm_T) && ci == 12
    | _ => false)
theorem mm_iB_ok {MT : Nat → Option mm_M} {stf : Nat → Bool} {npf : Nat → Nat} (hM : ∀ y t, MT y = some t → mm_mE t (stf y) (npf y)) {own : String} {cc : ByteArray} {pc a b ci d idx pl ps : Nat} (h : mm_iB MT stf npf own cc pc a b ci d idx pl ps = true) : mm_iE MT own cc pc a b ci d := by
  unfold mm_iB at h
  split at h
  · cases h
  · rename_i t ht
    obtain ⟨m1, m2, m3, m4, m5, m6, m7⟩ := hM a t ht
    refine ⟨t, idx, npf a, ht, m1, m2, m3, m4, m7, ?_⟩
    split at h
    · simp only [Bool.and_eq_true, Bool.not_eq_true', beq_iff_eq] at h
      obtain ⟨⟨⟨⟨h1, h2⟩, h3⟩, h4⟩, h5⟩ := h
      rw [h1] at m5
      refine Or.inl ⟨rfl, h2, mm_isd_ok h3, mm_has_T h4, m5, ?_⟩
      split at h5
      · rename_i e
        exact ⟨_, mm_has_T h5, Or.inl ⟨e, rfl⟩⟩
      · rename_i e
        split at h5
        · rename_i C T N e2
          exact ⟨C, mm_has_T h5, Or.inr ⟨e, T, N, e2⟩⟩
        · cases h5
    · simp only [Bool.and_eq_true, Bool.or_eq_true, beq_iff_eq] at h
      obtain ⟨⟨⟨h1, h2⟩, h3⟩, h4⟩ := h
      rw [h1] at m5
      refine Or.inr (Or.inl ⟨rfl, h2, mm_isd_ok h3, m5, ?_⟩)
      rcases h4 with h4 | h4
      · exact Or.inl (mm_has_T h4)
      · exact Or.inr ⟨h4.1, _, mm_has_T h4.2⟩
    · simp only [Bool.and_eq_true, Bool.or_eq_true, Bool.not_eq_true', beq_iff_eq, decide_eq_true_eq] at h
      obtain ⟨⟨⟨⟨⟨⟨h1, h2⟩, h3⟩, h4⟩, h5⟩, h6⟩, h7⟩ := h
      rw [h1] at m5
      refine Or.inr (Or.inr (Or.inl ⟨rfl, h2, mm_isd_ok h3, h4, h5, h6, m5, ?_⟩))
      rcases h7 with h7 | h7
      · exact Or.inl (mm_has_T h7)
      · exact Or.inr ⟨_, mm_has_T h7⟩
    · simp only [Bool.and_eq_true, Bool.not_eq_true', beq_iff_eq] at h
      obtain ⟨⟨⟨⟨⟨⟨⟨h1, h2⟩, h3⟩, h4⟩, h5⟩, h6⟩, h7⟩, h8⟩ := h
      rw [h1] at m5
      exact Or.inr (Or.inr (Or.inr (Or.inl ⟨rfl, h2, mm_isd_ok h3, h4, mm_has_T h5, m5, mm_has_T h6, h7, h8⟩)))
    · simp only [Bool.and_eq_true, Bool.not_eq_true', beq_iff_eq, beq_eq_false_iff_ne, decide_eq_true_eq] at h
      obtain ⟨⟨⟨⟨⟨⟨⟨⟨h1, h2⟩, h3⟩, h4⟩, h5⟩, h6⟩, h7⟩, h8⟩, h9⟩ := h
      rw [h1] at m5
      exact Or.inr (Or.inr (Or.inr (Or.inr ⟨rfl, h2, mm_isd_ok h3, h4, h5, m5, mm_has_T h6, mm_has_T h7, h8, h9⟩)))
    · cases h
def mm_opB (Q : mm_Q) (MT : Nat → Option mm_M) (stf : Nat → Bool) (npf : Nat → Nat) (stn : Nat → String × String × String) (sts : String → Nat → Option (Nat × String)) (TX : List (String × Nat × Nat × String)) (XL : List (String × Nat × String)) (own yn : String) (cc : ByteArray) (hh : List (Nat × Nat × Nat × Nat)) (ret : Option FieldType) (pc len : Nat) (op : mm_Op) (idx x y : Nat) : Bool := match op with
  | (0, _, _, _, _, i, _) => mm_isd cc pc i len && len == mm_len i
  | (1, _, _, _, _, i, _) => mm_isd cc pc i len && (len == mm_len i || mm_isSw i)
  | (2, _, _, _, _, i, _) => mm_isd cc pc i len && len == mm_len i
  | (3, _, _, _, _, i, _) => mm_isd cc pc i len && len == mm_len i
  | (4, a, _, _, _, i, _) => mm_isd cc pc i len && len == mm_len i && mm_rB a i ret
  | (5, a, _, _, _, _, _) => (match Q.2.1 a with
    | some v => mm_kB own cc pc len v idx x
    | none => false)
  | (6, a, _, _, _, _, _) => (match sts own idx with
    | some (sid, _) => sid == a && ((mm_isd cc pc (.ldc idx) 2 && len == 2) || (mm_isd cc pc (.ldc_w idx) 3 && len == 3))
    | none => false)
  | (7, a, b, _, _, _, _) => len == 3 && mm_isd cc pc (.getfield idx) 3 && mm_fB own idx a b x
  | (8, a, b, _, _, _, _) => len == 3 && mm_isd cc pc (.putfield idx) 3 && (match Q.2.2.2.2 a b with
    | some ty => mm_wB own yn idx a b x ty
    | none => false)
  | (9, a, _, _, _, _, _) => len == 3 && mm_isd cc pc (.getstatic idx) 3 && mm_has x (Cond.fieldLink own idx (stn a).1 (stn a).2.1 (stn a).2.2)
  | (10, a, _, _, _, _, _) => len == 3 && decide (a < 2) && mm_isd cc pc (.getfield idx) 3 && mm_has x (Cond.fieldLink own idx "java/lang/String" (mm_sf a).1 (mm_sf a).2)
  | (11, a, p2, p3, _, _, _) => len == 3 && mm_isd cc pc (.new idx) 3 && (match Q.2.2.2.1 a with
    | some fs => mm_nB own idx a fs x p2 p3
    | none => false)
  | (12, a, _, _, _, _, _) => (decide (a < 4) && len == 2 && mm_isd cc pc (.newarray (mm_at9 a)) 2 && mm_has x (Cond.arrayClass (mm_ty a))) || (a == 5 && len == 3 && mm_isd cc pc (.anewarray idx) 3 && mm_has x (Cond.classLink own idx RX5))
  | (13, _, _, _, _, i, _) => mm_isd cc pc i len && len == mm_len i
  | (14, _, _, _, _, _, _) => len == 3 && mm_isd cc pc (.invokespecial idx) 3 && mm_has x (Cond.methodLink own idx objectInit)
  | (15, a, b, ci, d9, _, hs) => mm_iB MT stf npf own cc pc a b ci d9 idx x y && mm_hB XL own cc hh pc hs
  | (16, _, _, _, _, _, hs) => (match hs with
    | (E, _) :: _ => mm_tB sts own cc hh pc E idx x y TX
    | [] => true)
  | (17, _, _, _, _, _, _) => len == 3 && mm_isd cc pc (.invokestatic idx) 3 && mm_has x (Cond.methodLink own idx arraycopyName)
  | (18, _, _, _, _, _, _) => len == 3 && mm_isd cc pc (.invokestatic idx) 3 && mm_has x (Cond.methodLink own idx Lib.Math.max.name)
  | (19, _, _, _, _, _, _) => len == 3 && mm_isd cc pc (.invokestatic idx) 3 && mm_has x (Cond.methodLink own idx Lib.Math.min.name)
  | (20, a, _, _, _, _, _) => len == 6 && mm_isd cc pc (.invokevirtual idx) 3 && mm_isd cc (pc + 3) (.checkcast a) 3 && decide (∀ w ∈ mm_clW own idx a, w ∈ mm_T)
  | (99, _, _, _, _, _, _) => true
  | _ => false
theorem mm_opB_ok {Q : mm_Q} {MT : Nat → Option mm_M} {stf : Nat → Bool} {npf : Nat → Nat} {stn : Nat → String × String × String} {sts : String → Nat → Option (Nat × String)} {TX : List (String × Nat × Nat × String)} {XL : List (String × Nat × String)} (hM : ∀ y t, MT y = some t → mm_mE t (stf y) (npf y)) (hT : mm_TXok TX) (hX : mm_XLok XL) {own yn : String} {cc : ByteArray} {hh : List (Nat × Nat × Nat × Nat)} {ret : Option FieldType} {pc len : Nat} {op : mm_Op} {idx x y : Nat} (old : Nat → Option (Nat × vp_A)) (h : mm_opB Q MT stf npf stn sts TX XL own yn cc hh ret pc len op idx x y = true) : mm_opE (old, Q) MT stn sts own yn cc hh ret pc len op := by
  unfold mm_opB at h
  split at h
  case h_1 => simp only [Bool.and_eq_true, beq_iff_eq] at h; exact ⟨mm_isd_ok h.1, h.2⟩
  case h_2 => simp only [Bool.and_eq_true, Bool.or_eq_true, beq_iff_eq] at h; exact ⟨mm_isd_ok h.1, h.2⟩
  case h_3 => simp only [Bool.and_eq_true, beq_iff_eq] at h; exact ⟨mm_isd_ok h.1, h.2⟩
  case h_4 => simp only [Bool.and_eq_true, beq_iff_eq] at h; exact ⟨mm_isd_ok h.1, h.2⟩
  case h_5 => simp only [Bool.and_eq_true, beq_iff_eq] at h; exact ⟨mm_isd_ok h.1.1, h.1.2, mm_rB_ok h.2⟩
  case h_6 =>
    split at h
    · rename_i v e
      exact ⟨v, e, mm_kB_ok h⟩
    · cases h
  case h_7 =>
    split at h
    · rename_i sid tx e
      simp only [Bool.and_eq_true, Bool.or_eq_true, beq_iff_eq] at h
      obtain ⟨rfl, h⟩ := h
      refine ⟨idx, tx, e, ?_⟩
      rcases h with h | h
      · exact Or.inl ⟨mm_isd_ok h.1, h.2⟩
      · exact Or.inr ⟨mm_isd_ok h.1, h.2⟩
    · cases h
  case h_8 => simp only [Bool.and_eq_true, beq_iff_eq] at h; exact ⟨h.1.1, idx, mm_isd_ok h.1.2, mm_fB_ok h.2⟩
  case h_9 =>
    rw [Bool.and_eq_true, Bool.and_eq_true, beq_iff_eq] at h
    obtain ⟨⟨h1, h2⟩, h3⟩ := h
    split at h3
    · rename_i ty e
      exact ⟨h1, idx, ty, mm_isd_ok h2, e, mm_wB_ok h3⟩
    · cases h3
  case h_10 => simp only [Bool.and_eq_true, beq_iff_eq] at h; exact ⟨h.1.1, idx, mm_isd_ok h.1.2, mm_has_T h.2⟩
  case h_11 => simp only [Bool.and_eq_true, beq_iff_eq, decide_eq_true_eq] at h; exact ⟨h.1.1.1, h.1.1.2, idx, mm_isd_ok h.1.2, mm_has_T h.2⟩
  case h_12 =>
    rw [Bool.and_eq_true, Bool.and_eq_true, beq_iff_eq] at h
    obtain ⟨⟨h1, h2⟩, h3⟩ := h
    split at h3
    · rename_i fs e
      exact ⟨h1, idx, fs, mm_isd_ok h2, e, mm_nB_ok h3⟩
    · cases h3
  case h_13 =>
    simp only [Bool.and_eq_true, Bool.or_eq_true, beq_iff_eq, decide_eq_true_eq] at h
    rcases h with h | h
    · exact Or.inl ⟨h.1.1.1, h.1.1.2, mm_isd_ok h.1.2, mm_has_T h.2⟩
    · exact Or.inr ⟨h.1.1.1, h.1.1.2, idx, mm_isd_ok h.1.2, mm_has_T h.2⟩
  case h_14 => simp only [Bool.and_eq_true, beq_iff_eq] at h; exact ⟨mm_isd_ok h.1, h.2⟩
  case h_15 => simp only [Bool.and_eq_true, beq_iff_eq] at h; exact ⟨h.1.1, idx, mm_isd_ok h.1.2, mm_has_T h.2⟩
  case h_16 =>
    rw [Bool.and_eq_true] at h
    exact ⟨mm_iB_ok hM h.1, mm_hB_ok hX h.2⟩
  case h_17 =>
    intro E q r e
    split at h
    · rename_i E9 q9 r9
      cases e
      exact mm_tB_ok hT h
    · cases e
  case h_18 => simp only [Bool.and_eq_true, beq_iff_eq] at h; exact ⟨h.1.1, idx, mm_isd_ok h.1.2, mm_has_T h.2⟩
  case h_19 => simp only [Bool.and_eq_true, beq_iff_eq] at h; exact ⟨h.1.1, idx, mm_isd_ok h.1.2, mm_has_T h.2⟩
  case h_20 => simp only [Bool.and_eq_true, beq_iff_eq] at h; exact ⟨h.1.1, idx, mm_isd_ok h.1.2, mm_has_T h.2⟩
  case h_21 =>
    rw [Bool.and_eq_true, Bool.and_eq_true, Bool.and_eq_true, beq_iff_eq, decide_eq_true_eq] at h
    exact ⟨h.1.1.1, idx, mm_isd_ok h.1.1.2, mm_isd_ok h.1.2, h.2⟩
  case h_22 => trivial
  case h_23 => cases h
/-- rows with their hints -/
def mm_rowsB (f : Nat → Nat → mm_Op → Nat → Nat → Nat → Bool) : mm_Code → List (Nat × Nat × Nat) → Bool
  | [], _ => true
  | (pc, len, op) :: r, (i, x, y) :: h => f pc len op i x y && mm_rowsB f r h
  | _ :: _, [] => false
theorem mm_rowsB_ok {f : Nat → Nat → mm_Op → Nat → Nat → Nat → Bool} : ∀ {c : mm_Code} {h : List (Nat × Nat × Nat)}, mm_rowsB f c h = true → ∀ pc len op, (pc, len, op) ∈ c → ∃ i x y, f pc len op i x y = true
  | [], _, _, _, _, _, hm => by cases hm
  | (pc9, len9, op9) :: r, (i, x, y) :: h, hb, pc, len, op, hm => by
    simp only [mm_rowsB, Bool.and_eq_true] at hb
    rcases List.mem_cons.mp hm with e | hm
    · cases e
      exact ⟨i, x, y, hb.1⟩
    · exact mm_rowsB_ok hb.2 pc len op hm
  | _ :: _, [], hb, _, _, _, _ => by cases hb
def mm_tabB (Q : mm_Q) (MT : Nat → Option mm_M) (stf : Nat → Bool) (npf : Nat → Nat) (stn : Nat → String × String × String) (sts : String → Nat → Option (Nat × String)) (TX : List (String × Nat × Nat × String)) (XL : List (String × Nat × String)) (t : mm_M) (hints : List (Nat × Nat × Nat)) : Bool :=
  mm_rowsB (fun pc len op i x y => mm_opB Q MT stf npf stn sts TX XL t.2.2.1.cls t.2.2.1.name t.2.2.2.1 t.2.2.2.2.2 t.2.2.2.2.1 pc len op i x y) t.1 hints
theorem mm_tabB_ok {Q : mm_Q} {MT : Nat → Option mm_M} {stf : Nat → Bool} {npf : Nat → Nat} {stn : Nat → String × String × String} {sts : String → Nat → Option (Nat × String)} {TX : List (String × Nat × Nat × String)} {XL : List (String × Nat × String)} (hM : ∀ y t, MT y = some t → mm_mE t (stf y) (npf y)) (hT : mm_TXok TX) (hX : mm_XLok XL) {t : mm_M} {hints : List (Nat × Nat × Nat)} (old : Nat → Option (Nat × vp_A)) (h : mm_tabB Q MT stf npf stn sts TX XL t hints = true) : ∀ pc len op, t.1.lookup pc = some (len, op) → mm_opE (old, Q) MT stn sts t.2.2.1.cls t.2.2.1.name t.2.2.2.1 t.2.2.2.2.2 t.2.2.2.2.1 pc len op := by
  intro pc len op hlk
  obtain ⟨i, x, y, h9⟩ := mm_rowsB_ok h pc len op (mm_lookup_mem hlk)
  exact mm_opB_ok hM hT hX old h9
end
section
theorem zz_last : True := trivial
end
