/-! THE LAW'S START: what is known there gives a frame's environment -/
def mm_nar : List Cond := flatC (Jvm.Cond.and given_1 narrow_1)
def mm_satoms (own : String) (idx : Nat) (bs : List Int32) : List Cond :=
  [Cond.exactly (.string own idx) "java/lang/String", Cond.eq (.field (.string own idx) "java/lang/String" "coder" "B") (.int 0), Cond.arrayOf (.field (.string own idx) "java/lang/String" "value" "[B") .byte, Cond.eq (.length (.field (.string own idx) "java/lang/String" "value" "[B")) (.int (Int32.ofNat bs.length))] ++
  (List.range bs.length).map (fun j => Cond.eq (.elem (.field (.string own idx) "java/lang/String" "value" "[B") (.int (Int32.ofNat j))) (.int (bs.getD j 0)))
set_option maxRecDepth 100000 in
theorem mm_sat_ok : mm_STB.all (fun q => decide ((mm_nar.drop q.2.2.1).take (4 + q.2.2.2.length) = mm_satoms q.1 q.2.1 q.2.2.2) && decide (q.2.2.2.length < 1000)) = true := by decide +kernel
theorem mm_sat_mem {own : String} {idx pos : Nat} {bs : List Int32} (h : (own, idx, pos, bs) ∈ mm_STB) : (∀ w ∈ mm_satoms own idx bs, w ∈ mm_nar) ∧ bs.length < 1000 := by
  have h1 := List.all_eq_true.mp mm_sat_ok _ h
  simp only [Bool.and_eq_true, decide_eq_true_eq] at h1
  refine ⟨fun w hw => ?_, h1.2⟩
  rw [← h1.1] at hw
  exact List.mem_of_mem_drop (List.mem_of_mem_take hw)
/-- one String constant at the start -/
theorem mm_str_at {args : Array Value} {s : State} {own : String} {idx : Nat} {bs : List Int32} {A : Nat → Prop} (hb : bs.length < 1000) (h : ∀ w ∈ mm_satoms own idx bs, w.before args s = true) (hA : ∀ a : Nat, a < s.heap.size → ¬ A a) :
    ∃ q : Nat × Nat, (Term.string own idx).eval args s none [] s = some (.ref q.1) ∧ va_O "java/lang/String" q.1 A s s.heap ∧ va_OF "java/lang/String" "coder" "B" (.int 0) q.1 A s s.heap ∧ va_OF "java/lang/String" "value" "[B" (.ref q.2) q.1 A s s.heap ∧ va_T .byte q.2 bs.length (fun j => .int (bs.getD j 0)) A s s.heap := by
  have h1 := h (Cond.exactly (.string own idx) "java/lang/String") (by simp [mm_satoms])
  have h2 := h (Cond.eq (.field (.string own idx) "java/lang/String" "coder" "B") (.int 0)) (by simp [mm_satoms])
  have h3 := h (Cond.arrayOf (.field (.string own idx) "java/lang/String" "value" "[B") .byte) (by simp [mm_satoms])
  have h4 := h (Cond.eq (.length (.field (.string own idx) "java/lang/String" "value" "[B")) (.int (Int32.ofNat bs.length))) (by simp [mm_satoms])
  have h5 : ∀ j : Nat, j < bs.length → (Cond.eq (.elem (.field (.string own idx) "java/lang/String" "value" "[B") (.int (Int32.ofNat j))) (.int (bs.getD j 0))).before args s = true := by
    intro j hj
    refine h _ ?_
    rw [mm_satoms, List.mem_append]
    exact Or.inr (List.mem_map.mpr ⟨j, List.mem_range.mpr hj, rfl⟩)
  obtain ⟨a, c, cell, k, q1, q2, q3, q4, q5, q6, -⟩ := Cond.exactly_spec (args := args) (first := s) (o := none) (s := s) (idx := []) h1
  obtain ⟨t, ht, hT⟩ := va_Tof (f := fun j => .int (bs.getD j 0)) (A := A) (by omega) h3 (va_eqt h4) (fun j hj => va_eqt (h5 j hj)) hA
  exact ⟨(a, t), q1, ⟨cell, q3, q5, by rw [q6]; exact q2, hA a (Array.getElem?_eq_some_iff.mp q3).1⟩, vk_OFof q1 (va_eqt h2) hA, vk_OFof q1 ht hA, hT⟩
/-- the old arrays: the two static ones, the script, the Strings' bytes -/
def mm_ones : List Int64 := [-6148914691236517206, -3689348814741910324, -1085102592571150096, -71777214294589696, -281470681808896, -4294967296]
def mm_sign : List Int32 := [4, 3, 1, 2, 0]
def mm_old (L : Nat) (xs : Nat → Int32) (a : Nat) : Option (Nat × vp_A) :=
  if a = 1000000 then some (1, (6, .inr (.inl (fun j => mm_ones.getD j 0)))) else
  if a = 1000001 then some (0, (5, .inl (fun j => mm_sign.getD j 0))) else
  if a = 1000002 then some (0, (L, .inl xs)) else
  if a < 3000000 then none else (match mm_STB[a - 3000000]? with
  | some q => some (2, (q.2.2.2.length, .inl (fun j => q.2.2.2.getD j 0)))
  | none => none)
def mm_PP (L : Nat) (xs : Nat → Int32) : mm_P := (mm_old L xs, mm_PQ)
/-- the String table, by its places: the same order in both lists -/
theorem mm_STS_B : mm_STS.map (fun q => (q.1, q.2.1)) = mm_STB.map (fun q => (q.1, q.2.1)) := by decide +kernel
theorem mm_find_at {own : String} {i : Nat} : ∀ {l : List (String × Nat × String)} {n sid : Nat} {tx : String}, mm_find own i n l = some (sid, tx) → ∃ k, sid = n + k ∧ l[k]? = some (own, i, tx)
  | [], n, sid, tx, h => by cases h
  | (o, j, t) :: r, n, sid, tx, h => by
    simp only [mm_find] at h
    split at h
    · rename_i e
      cases h
      obtain ⟨rfl, rfl⟩ := e
      exact ⟨0, rfl, rfl⟩
    · obtain ⟨k, e1, e2⟩ := mm_find_at h
      exact ⟨k + 1, by omega, e2⟩
theorem mm_str_words : ∀ q ∈ mm_STS, Cond.stringRef q.1 q.2.1 q.2.2 ∈ lx_tbl := by decide +kernel
theorem mm_in0 : ∀ q ∈ vwCl, Cond.instantiable q.1 q.2.2 ∈ mm_T := by decide +kernel
theorem mm_arrW : ∀ t, t < 5 → Cond.arrayClass (mm_ty t) ∈ lx_tbl := by
  intro t ht
  rcases (show t = 0 ∨ t = 1 ∨ t = 2 ∨ t = 3 ∨ t = 4 by omega) with rfl | rfl | rfl | rfl | rfl <;> decide +kernel
theorem mm_ovW : Cond.arrayOver (.object RX5) ∈ lx_tbl := by decide +kernel
theorem mm_stW : Cond.laysStatic "DecisionDiagrams$Tables" "ONES" "[J" ∈ lx_tbl ∧ Cond.initialized "DecisionDiagrams$Tables" ∈ lx_tbl ∧ Cond.laysStatic "DecisionDiagrams$Reader" "OPERATOR_OF_SIGN" "[I" ∈ lx_tbl ∧ Cond.initialized "DecisionDiagrams$Reader" ∈ lx_tbl ∧ Cond.laysStatic "java/lang/String" "COMPACT_STRINGS" "Z" ∈ lx_tbl ∧ Cond.initialized "java/lang/String" ∈ lx_tbl ∧ Cond.laysStatic "jdk/internal/util/Preconditions" "SIOOBE_FORMATTER" "Ljava/util/function/BiFunction;" ∈ lx_tbl ∧ Cond.initialized "jdk/internal/util/Preconditions" ∈ lx_tbl ∧ Cond.laysStatic Bundle.tN "UNASSIGNED_STACK" Bundle.steD ∈ lx_tbl ∧ Cond.laysStatic Bundle.tN "SUPPRESSED_SENTINEL" Bundle.listD ∈ lx_tbl ∧ Cond.initialized Bundle.tN ∈ lx_tbl :=
  ⟨by decide +kernel, by decide +kernel, by decide +kernel, by decide +kernel, by decide +kernel, by decide +kernel, by decide +kernel, by decide +kernel, by decide +kernel, by decide +kernel, by decide +kernel⟩
def mm_oatoms : List Cond := [Cond.arrayOf (.static "DecisionDiagrams$Tables" "ONES" "[J") .long, Cond.eq (.length (.static "DecisionDiagrams$Tables" "ONES" "[J")) (.int 6)] ++ (List.range 6).map (fun j => Cond.eq (.elem (.static "DecisionDiagrams$Tables" "ONES" "[J") (.int (Int32.ofNat j))) (.long (mm_ones.getD j 0)))
def mm_gatoms : List Cond := [Cond.arrayOf (.static "DecisionDiagrams$Reader" "OPERATOR_OF_SIGN" "[I") .int, Cond.eq (.length (.static "DecisionDiagrams$Reader" "OPERATOR_OF_SIGN" "[I")) (.int 5)] ++ (List.range 5).map (fun j => Cond.eq (.elem (.static "DecisionDiagrams$Reader" "OPERATOR_OF_SIGN" "[I") (.int (Int32.ofNat j))) (.int (mm_sign.getD j 0)))
theorem mm_narW : (∀ w ∈ mm_oatoms, w ∈ mm_nar) ∧ (∀ w ∈ mm_gatoms, w ∈ mm_nar) ∧ Cond.eq (.static "java/lang/String" "COMPACT_STRINGS" "Z") (.int 1) ∈ mm_nar ∧ Cond.isRef (.static "jdk/internal/util/Preconditions" "SIOOBE_FORMATTER" "Ljava/util/function/BiFunction;") ∈ mm_nar ∧ Cond.isRef (.static Bundle.tN "UNASSIGNED_STACK" Bundle.steD) ∈ mm_nar ∧ Cond.isRef (.static Bundle.tN "SUPPRESSED_SENTINEL" Bundle.listD) ∈ mm_nar ∧ (∀ E ∈ mm_ex, ∀ E' ∈ mm_ex, E ≠ E' → Cond.not (.castable E E') ∈ mm_nar) :=
  ⟨by decide +kernel, by decide +kernel, by decide +kernel, by decide +kernel, by decide +kernel, by decide +kernel, by decide +kernel⟩
theorem mm_stb_len : mm_STB.length = 51 ∧ mm_STS.length = 51 := by decide +kernel
theorem mm_start {args : Array Value} {s : State} (hts : ∀ w ∈ lx_tbl, w.before args s = true) (hnv : ∀ w ∈ mm_nar, w.before args s = true) {b L : Nat} {xs : Nat → Int32} (hX : va_X b L xs s s.heap) (hL : L ≤ 260) (hbl : b < s.heap.size) :
    ∃ (rho : Nat → Nat) (opq : Nat → Value) (cA : Nat → ClassId) (D : va_G), mm_rho rho s.heap.size ∧ mm_opq opq ∧ rho 1000002 = b ∧ mm_env (mm_PP L xs) mm_stn mm_sts rho opq cA D s.heap.size s := by
  have hA0 : ∀ a : Nat, a < s.heap.size → ¬ (fun q : Nat => s.heap.size ≤ q) a := fun a h => Nat.not_le.mpr h
  obtain ⟨w1, w2, w3, w4, w5, w6, w7⟩ := mm_narW
  obtain ⟨z1, z2, z3, z4, z5, z6, z7, z8, z9, z10, z11⟩ := mm_stW
  have hT : ∀ w ∈ mm_T, w.before args s = true := fun w hw => hts w (List.mem_filter.mp hw).1
  have hs : ∀ i : Nat, ∃ q : Nat × Nat, ∀ (own : String) (idx pos : Nat) (bs : List Int32), mm_STB[i]? = some (own, idx, pos, bs) → (Term.string own idx).eval args s none [] s = some (.ref q.1) ∧ va_O "java/lang/String" q.1 (fun q : Nat => s.heap.size ≤ q) s s.heap ∧ va_OF "java/lang/String" "coder" "B" (.int 0) q.1 (fun q : Nat => s.heap.size ≤ q) s s.heap ∧ va_OF "java/lang/String" "value" "[B" (.ref q.2) q.1 (fun q : Nat => s.heap.size ≤ q) s s.heap ∧ va_T .byte q.2 bs.length (fun j => .int (bs.getD j 0)) (fun q : Nat => s.heap.size ≤ q) s s.heap := by
    intro i
    cases hi : mm_STB[i]? with
    | none => exact ⟨(0, 0), fun own idx pos bs h => nomatch h⟩
    | some q =>
      obtain ⟨own, idx, pos, bs⟩ := q
      obtain ⟨g1, g2⟩ := mm_sat_mem (List.mem_of_getElem? hi)
      obtain ⟨q, hq⟩ := mm_str_at (A := fun q : Nat => s.heap.size ≤ q) g2 (fun w hw => hnv w (g1 w hw)) hA0
      exact ⟨q, fun own' idx' pos' bs' h => by cases h; exact hq⟩
  obtain ⟨ad, had⟩ := Classical.axiomOfChoice hs
  obtain ⟨tO, eO, hO⟩ := va_Tof (args := args) (s := s) (tm := .static "DecisionDiagrams$Tables" "ONES" "[J") (ty := .long) (N := 6) (f := fun j => .long (mm_ones.getD j 0)) (A := fun q : Nat => s.heap.size ≤ q) (by omega) (hnv _ (w1 _ (by simp [mm_oatoms]))) (va_eqt (hnv _ (w1 (Cond.eq (.length (.static "DecisionDiagrams$Tables" "ONES" "[J")) (.int 6)) (by simp [mm_oatoms])))) (fun j hj => va_eqtl (hnv _ (w1 _ (by rw [mm_oatoms, List.mem_append]; exact Or.inr (List.mem_map.mpr ⟨j, List.mem_range.mpr hj, rfl⟩))))) hA0
  obtain ⟨tG, eG, hG⟩ := va_Tof (args := args) (s := s) (tm := .static "DecisionDiagrams$Reader" "OPERATOR_OF_SIGN" "[I") (ty := .int) (N := 5) (f := fun j => .int (mm_sign.getD j 0)) (A := fun q : Nat => s.heap.size ≤ q) (by omega) (hnv _ (w2 _ (by simp [mm_gatoms]))) (va_eqt (hnv _ (w2 (Cond.eq (.length (.static "DecisionDiagrams$Reader" "OPERATOR_OF_SIGN" "[I")) (.int 5)) (by simp [mm_gatoms])))) (fun j hj => va_eqt (hnv _ (w2 _ (by rw [mm_gatoms, List.mem_append]; exact Or.inr (List.mem_map.mpr ⟨j, List.mem_range.mpr hj, rfl⟩))))) hA0
  obtain ⟨wF, oF, hF⟩ : ∃ w : Value, (w = .null ∨ ∃ a, w = .ref a) ∧ va_Z "jdk/internal/util/Preconditions" "SIOOBE_FORMATTER" "Ljava/util/function/BiFunction;" w (fun q : Nat => s.heap.size ≤ q) s s.heap := by
    rcases va_Zqof (A := fun q : Nat => s.heap.size ≤ q) (hts _ z7) (hts _ z8) (hnv _ w4) hA0 with h | ⟨t, h⟩
    · exact ⟨_, Or.inl rfl, h⟩
    · exact ⟨_, Or.inr ⟨t, rfl⟩, h⟩
  have hc : ∀ t : Nat, ∃ c : ClassId, t < 6 → ArrOfT s c (mm_ty t) ∧ va_RA s c (mm_ty t) := by
    intro t
    by_cases h5 : t < 5
    · obtain ⟨c, k, comp, g1, g2, g3⟩ := Cond.arrayClass_spec (args := args) (first := s) (o := none) (s := s) (idx := []) (hts _ (mm_arrW t h5))
      refine ⟨c, fun _ => ⟨fun n z => ⟨(fun k h => by cases h), k, g2, comp, g3⟩, ?_⟩⟩
      rcases (show t = 0 ∨ t = 1 ∨ t = 2 ∨ t = 3 ∨ t = 4 by omega) with rfl | rfl | rfl | rfl | rfl <;> exact g1
    · by_cases h6 : t = 5
      · subst h6
        obtain ⟨comp, c, k, g1, -, g3, g4, g5⟩ := Cond.arrayOver_spec (args := args) (first := s) (o := none) (s := s) (idx := []) (hts _ mm_ovW)
        exact ⟨c, fun _ => ⟨fun n z => ⟨(fun k h => by cases h), k, g3, comp, g4⟩, k, comp, g3, g4, g1, g5⟩⟩
      · exact ⟨0, fun h => absurd h (by omega)⟩
  obtain ⟨cA, hcA⟩ := Classical.axiomOfChoice hc
  have hD : ∀ k : Nat, ∃ d : ClassId × (Nat → Nat), ∀ q : vw_C, vwCl[k]? = some q → u_Kn s q.1 q.2.1 q.2.2 d.1 d.2 := by
    intro k
    cases hk : vwCl[k]? with
    | none => exact ⟨(0, fun _ => 0), fun q h => nomatch h⟩
    | some q =>
      obtain ⟨C, T, N⟩ := q
      obtain ⟨f1, -, -⟩ := mm_cls hk
      obtain ⟨c, i, h9⟩ := u_known (C := C) (T := T) (N := N) hT f1 (hT _ (mm_in0 _ (List.mem_of_getElem? hk)))
      exact ⟨(c, i), fun q h => by cases h; exact h9⟩
  obtain ⟨dd, hdd⟩ := Classical.axiomOfChoice hD
  obtain ⟨rho, hrho⟩ : ∃ rho : Nat → Nat, rho = fun k => if k < 1000000 then s.heap.size + k else if k = 1000000 then tO else if k = 1000001 then tG else if k = 1000002 then b else if k < 3000000 then (ad (k - 2000000)).1 else (ad (k - 3000000)).2 := ⟨_, rfl⟩
  have r0 : ∀ k, k < 1000000 → rho k = s.heap.size + k := fun k hk => by rw [hrho]; simp [hk]
  have r1 : rho 1000000 = tO := by rw [hrho]; simp
  have r2 : rho 1000001 = tG := by rw [hrho]; simp
  have r3 : rho 1000002 = b := by rw [hrho]; simp
  have r4 : ∀ k, 2000000 ≤ k → k < 3000000 → rho k = (ad (k - 2000000)).1 := fun k h1 h2 => by
    rw [hrho]
    simp only [show ¬ k < 1000000 by omega, show ¬ k = 1000000 by omega, show ¬ k = 1000001 by omega, show ¬ k = 1000002 by omega, h2, if_true, if_false]
  have r5 : ∀ k, 3000000 ≤ k → rho k = (ad (k - 3000000)).2 := fun k h1 => by
    rw [hrho]
    simp only [show ¬ k < 1000000 by omega, show ¬ k = 1000000 by omega, show ¬ k = 1000001 by omega, show ¬ k = 1000002 by omega, show ¬ k < 3000000 by omega, if_false]
  refine ⟨rho, fun _ => wF, cA, (fun k => (dd k).1, fun k => (dd k).2), r0, fun _ => oF, r3, ⟨fun k q hq => hdd k q hq, fun k q hk => ?_⟩, fun w hw hn => va_Nw.of (mm_nest_onT hn) (hts w (List.mem_filter.mp hw).1), va_AO.of (hts _ mm_ovW), fun a t x he hl => ?_, fun own i sid tx he => ?_, fun a k v he => ?_, fun a v he => ?_, vx_Zqof (hts _ z9) (hts _ z11) (hnv _ w5) hA0, vx_Zqof (hts _ z10) (hts _ z11) (hnv _ w6) hA0, fun E hE E' hE' hn => va_Nc.of (hnv _ (w7 E hE E' hE' hn))⟩
  · match k, hk with
    | 0, hk => cases hk; exact hcA 0 (by omega)
    | 1, hk => cases hk; exact hcA 1 (by omega)
    | 2, hk => cases hk; exact hcA 2 (by omega)
    | 3, hk => cases hk; exact hcA 3 (by omega)
    | 4, hk => cases hk; exact hcA 4 (by omega)
    | 5, hk => cases hk; exact hcA 5 (by omega)
    | n + 6, hk => simp [mm_tys] at hk
  · have he : mm_old L xs a = some (t, x) := he
    unfold mm_old at he
    split at he
    · rename_i e
      cases he
      rw [e, r1]
      exact hO
    · split at he
      · rename_i e
        cases he
        rw [e, r2]
        exact hG
      · split at he
        · rename_i e
          cases he
          rw [e, r3]
          obtain ⟨scr, x1, x2, x3, x4, x5⟩ := hX
          exact ⟨scr, x1, x2, x3, by rw [x4]; exact Nat.le_refl _, by rw [x4], x5, hA0 b hbl⟩
        · split at he
          · cases he
          · rename_i h3
            split at he
            · rename_i q hq
              cases he
              rw [r5 a (by omega)]
              exact (had (a - 3000000) q.1 q.2.1 q.2.2.1 q.2.2.2 hq).2.2.2.2
            · cases he
  · obtain ⟨k, e1, e2⟩ := mm_find_at he
    have e3 : sid = k := by omega
    subst e3
    have hlt : sid < 51 := by
      have := (List.getElem?_eq_some_iff.mp e2).1
      rw [mm_stb_len.2] at this
      exact this
    have hm : (mm_STB.map (fun q => (q.1, q.2.1)))[sid]? = some (own, i) := by
      rw [← mm_STS_B, List.getElem?_map, e2]
      rfl
    rw [List.getElem?_map, Option.map_eq_some_iff] at hm
    obtain ⟨⟨o9, i9, pos, bs⟩, hm1, hm2⟩ := hm
    cases hm2
    have hq := had sid o9 i9 pos bs hm1
    rw [r4 (2000000 + sid) (by omega) (by omega), show 2000000 + sid - 2000000 = sid by omega]
    refine vk_R.of (A := args) ?_ hq.1
    exact hts _ (mm_str_words _ (List.mem_of_getElem? e2))
  · have he : mm_ofl a k = some v := he
    unfold mm_ofl at he
    split at he
    · rename_i ha
      have hlt : a - 2000000 < mm_STB.length := by rw [mm_stb_len.1]; omega
      obtain ⟨⟨o9, i9, pos, bs⟩, hm⟩ : ∃ q, mm_STB[a - 2000000]? = some q := ⟨_, List.getElem?_eq_getElem hlt⟩
      have hq := had (a - 2000000) o9 i9 pos bs hm
      rw [r4 a ha.1 (by omega)]
      refine ⟨?_, hq.2.1⟩
      split at he
      · cases he
        show va_OF "java/lang/String" "value" "[B" (.ref (rho (a + 1000000))) _ _ _ _
        rw [r5 (a + 1000000) (by omega), show a + 1000000 - 3000000 = a - 2000000 by omega]
        exact hq.2.2.2.1
      · cases he
        exact hq.2.2.1
      · cases he
    · cases he
  · have he : mm_sta9 a = some v := he
    match a, he with
    | 0, he =>
      cases he
      show va_Z "DecisionDiagrams$Tables" "ONES" "[J" (.ref (rho 1000000)) _ _ _
      rw [r1]
      exact va_Zof (hts _ z1) (hts _ z2) eO hA0
    | 1, he =>
      cases he
      show va_Z "DecisionDiagrams$Reader" "OPERATOR_OF_SIGN" "[I" (.ref (rho 1000001)) _ _ _
      rw [r2]
      exact va_Zof (hts _ z3) (hts _ z4) eG hA0
    | 2, he =>
      cases he
      exact va_Zof (hts _ z5) (hts _ z6) (va_eqi (hnv _ w3)) hA0
    | 3, he =>
      cases he
      exact hF
    | n + 4, he => simp [mm_sta9, mm_stl] at he
