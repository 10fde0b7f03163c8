/-- the locals, as the machine has them -/
def mm_lh (rho : Nat → Nat) (opq : Nat → Value) (ls : Array Slot) (nL : Nat) (L : mm_L) : Prop := ls.size = nL ∧ lv_wf ls ∧ L.length = nL ∧ ∀ (i : Nat) (v : Value), L[i]? = some (some v) → ls[i]? = some (.val (mm_v rho opq v))
def mm_prs (rho : Nat → Nat) (opq : Nat → Value) (L : mm_L) : List (Nat × Value) := L.zipIdx.filterMap (fun q => q.1.map (fun v => (q.2, mm_v rho opq v)))
theorem mm_prs_mem {rho : Nat → Nat} {opq : Nat → Value} {L : mm_L} {i : Nat} {v : Value} (h : L[i]? = some (some v)) : (i, mm_v rho opq v) ∈ mm_prs rho opq L := by
  refine List.mem_filterMap.mpr ⟨(some v, i), ?_, rfl⟩
  exact List.mem_zipIdx_iff_getElem?.mpr h
theorem mm_prs_of {rho : Nat → Nat} {opq : Nat → Value} {L : mm_L} {q : Nat × Value} (h : q ∈ mm_prs rho opq L) : ∃ v, L[q.1]? = some (some v) ∧ q.2 = mm_v rho opq v := by
  obtain ⟨⟨o, i⟩, h1, h2⟩ := List.mem_filterMap.mp h
  have h3 : L[i]? = some o := List.mem_zipIdx_iff_getElem?.mp h1
  cases o with
  | none => cases h2
  | some v =>
    cases h2
    exact ⟨v, h3, rfl⟩
theorem mm_lh_has {rho : Nat → Nat} {opq : Nat → Value} {ls : Array Slot} {nL : Nat} {L : mm_L} (h : mm_lh rho opq ls nL L) : lv_has ls nL (mm_prs rho opq L) := by
  refine ⟨h.1, h.2.1, fun q hq => ?_⟩
  obtain ⟨v, h1, h2⟩ := mm_prs_of hq
  rw [h2]
  exact h.2.2.2 _ _ h1
theorem mm_kl_len (L : mm_L) (k : Nat) : (mm_kl L k).length = L.length := by
  cases k with
  | zero => rfl
  | succ j =>
    simp only [mm_kl]
    split
    · split <;> simp
    · rfl
theorem mm_kl_get {L : mm_L} {k j : Nat} {w : Value} (h : (mm_kl L k)[j]? = some (some w)) : L[j]? = some (some w) ∧ ¬ (j + 1 = k ∧ w.category = 2) := by
  cases k with
  | zero => exact ⟨h, fun z => absurd z.1 (Nat.succ_ne_zero j)⟩
  | succ i =>
    simp only [mm_kl] at h
    split at h
    · rename_i v hv
      split at h
      · rename_i hc
        rw [List.getElem?_set] at h
        split at h
        · split at h <;> cases h
        · rename_i hn
          exact ⟨h, fun z => hn (Nat.succ.inj z.1).symm⟩
      · rename_i hc
        refine ⟨h, fun z => ?_⟩
        have e : j = i := Nat.succ.inj z.1
        subst e
        rw [hv] at h
        cases h
        exact hc z.2
    · rename_i hv
      refine ⟨h, fun z => ?_⟩
      have e : j = i := Nat.succ.inj z.1
      subst e
      exact hv w h
theorem mm_st1_len {L L' : mm_L} {k : Nat} {v : Value} (h : mm_st1 L k v = some L') : k < L.length ∧ L' = (mm_kl L k).set k (some v) := by
  unfold mm_st1 at h
  split at h
  · rename_i h0
    exact ⟨h0, (Option.some.inj h).symm⟩
  · cases h
theorem mm_st2_len {L L' : mm_L} {k : Nat} {v : Value} (h : mm_st2 L k v = some L') : k + 1 < L.length ∧ L' = ((mm_kl L k).set k (some v)).set (k + 1) none := by
  unfold mm_st2 at h
  split at h
  · rename_i h0
    exact ⟨h0, (Option.some.inj h).symm⟩
  · cases h
theorem mm_st1_lh {rho : Nat → Nat} {opq : Nat → Value} (ho : mm_opq opq) {ls' : Array Slot} {nL k : Nat} {L L' : mm_L} {v : Value} (hL : L.length = nL) (h : mm_st1 L k v = some L')
    (h' : lv_has ls' nL ((k, mm_v rho opq v) :: (mm_prs rho opq L).filter (fun q => !(q.1 == k) && !(q.1 + 1 == k && q.2.category == 2)))) : mm_lh rho opq ls' nL L' := by
  obtain ⟨hk, rfl⟩ := mm_st1_len h
  refine ⟨h'.1, h'.2.1, by rw [List.length_set, mm_kl_len]; exact hL, fun j w hj => ?_⟩
  rw [List.getElem?_set] at hj
  split at hj
  · rename_i e
    subst e
    rw [if_pos (by rw [mm_kl_len]; exact hk)] at hj
    cases hj
    exact h'.2.2 _ List.mem_cons_self
  · rename_i hn
    obtain ⟨h1, h2⟩ := mm_kl_get hj
    refine h'.2.2 (j, mm_v rho opq w) (List.mem_cons_of_mem _ (List.mem_filter.mpr ⟨mm_prs_mem h1, ?_⟩))
    have n1 : (j == k) = false := by simpa using fun q : j = k => hn q.symm
    have n2 : (j + 1 == k && (mm_v rho opq w).category == 2) = false := by
      rw [mm_v_cat ho]
      cases hb : (j + 1 == k && w.category == 2) with
      | false => rfl
      | true =>
        simp only [Bool.and_eq_true, beq_iff_eq] at hb
        exact absurd hb h2
    show (!(j == k) && !(j + 1 == k && (mm_v rho opq w).category == 2)) = true
    rw [n1, n2]
    rfl
theorem mm_st2_lh {rho : Nat → Nat} {opq : Nat → Value} (ho : mm_opq opq) {ls' : Array Slot} {nL k : Nat} {L L' : mm_L} {v : Value} (hL : L.length = nL) (h : mm_st2 L k v = some L')
    (h' : lv_has ls' nL ((k, mm_v rho opq v) :: (mm_prs rho opq L).filter (fun q => !(q.1 == k) && (!(q.1 == k + 1) && !(q.1 + 1 == k && q.2.category == 2))))) : mm_lh rho opq ls' nL L' := by
  obtain ⟨hk, rfl⟩ := mm_st2_len h
  refine ⟨h'.1, h'.2.1, by rw [List.length_set, List.length_set, mm_kl_len]; exact hL, fun j w hj => ?_⟩
  rw [List.getElem?_set] at hj
  split at hj
  · split at hj <;> cases hj
  · rename_i hn0
    rw [List.getElem?_set] at hj
    split at hj
    · rename_i e
      subst e
      rw [if_pos (by rw [mm_kl_len]; omega)] at hj
      cases hj
      exact h'.2.2 _ List.mem_cons_self
    · rename_i hn
      obtain ⟨h1, h2⟩ := mm_kl_get hj
      refine h'.2.2 (j, mm_v rho opq w) (List.mem_cons_of_mem _ (List.mem_filter.mpr ⟨mm_prs_mem h1, ?_⟩))
      have n1 : (j == k) = false := by simpa using fun q : j = k => hn q.symm
      have n0 : (j == k + 1) = false := by simpa using fun q : j = k + 1 => hn0 q.symm
      have n2 : (j + 1 == k && (mm_v rho opq w).category == 2) = false := by
        rw [mm_v_cat ho]
        cases hb : (j + 1 == k && w.category == 2) with
        | false => rfl
        | true =>
          simp only [Bool.and_eq_true, beq_iff_eq] at hb
          exact absurd hb h2
      show (!(j == k) && (!(j == k + 1) && !(j + 1 == k && (mm_v rho opq w).category == 2))) = true
      rw [n1, n0, n2]
      rfl
theorem mm_map_inv {α β : Type} {o : Option α} {f : α → β} {b : β} (h : o.map f = some b) : ∃ a, o = some a ∧ b = f a := by
  cases o with
  | none => cases h
  | some a => exact ⟨a, rfl, (Option.some.inj h).symm⟩
section MML
variable {p : Program} {l : Launch} {e : Env} {R : Room} {s : State} {m : MethodId} {args : Array Value} {below : List Frame} {meth : Method} {c : Code} {H : Heap} {locs : List Loc} {cells slots : Nat} {Q : State → Prop}
variable {cc : ByteArray} {pc len : Nat} {ls : Array Slot} {rho : Nat → Nat} {opq : Nat → Value}
theorem mm_loc_sim (hx : p.tables.exec = Jvm.exec) (hb : c.code = cc) (ho : mm_opq opq) {i : Instr} {nL : Nat} {L L' : mm_L} {S S' : List Value} (hl : mm_lh rho opq ls nL L) (h : mm_loc i L S = some (L', S')) (hd : decode cc pc = .ok (i, len)) (hn : len = mm_len i)
    (k : ∀ ls' : Array Slot, mm_lh rho opq ls' nL L' → W p l e R s m args below meth c H locs cells slots Q (F0 m (pc + len) ls' (S'.map (mm_v rho opq)))) : W p l e R s m args below meth c H locs cells slots Q (F0 m pc ls (S.map (mm_v rho opq))) := by
  subst hn
  have hH := mm_lh_has hl
  cases i <;> simp only [mm_loc, mm_ldi, mm_ldj, mm_ldd, mm_lda, mm_sti, mm_stj, mm_std, mm_sta, mm_inc, reduceCtorEq] at h
  case iload j =>
    split at h
    · rename_i x hx1
      cases h
      exact lv_iload hx hb hd (hl.2.2.2 _ _ hx1) (k ls hl)
    · cases h
  case iload_n j =>
    split at h
    · rename_i x hx1
      cases h
      exact lv_iload_n hx hb hd rfl (hl.2.2.2 _ _ hx1) (k ls hl)
    · cases h
  case lload j =>
    split at h
    · rename_i x hx1
      cases h
      exact lv_lload hx hb hd (hl.2.2.2 _ _ hx1) (k ls hl)
    · cases h
  case lload_n j =>
    split at h
    · rename_i x hx1
      cases h
      exact lv_lload_n hx hb hd rfl (hl.2.2.2 _ _ hx1) (k ls hl)
    · cases h
  case dload j =>
    split at h
    · rename_i x hx1
      cases h
      exact lv_dload hx hb hd (hl.2.2.2 _ _ hx1) (k ls hl)
    · cases h
  case dload_n j =>
    split at h
    · rename_i x hx1
      cases h
      exact lv_dload_n hx hb hd rfl (hl.2.2.2 _ _ hx1) (k ls hl)
    · cases h
  case aload j =>
    split at h
    · rename_i x hx1
      cases h
      exact lv_aload hx hb hd (hl.2.2.2 _ _ hx1) (k ls hl)
    · rename_i hx1
      cases h
      exact lv_aloadN hx hb hd (hl.2.2.2 _ _ hx1) (k ls hl)
    · rename_i x hx1
      cases h
      have h9 := hl.2.2.2 _ _ hx1
      have k9 := k ls hl
      rcases ho x with e9 | ⟨a, e9⟩
      · simp only [List.map_cons, mm_v, e9] at h9 k9
        exact lv_aloadN hx hb hd h9 k9
      · simp only [List.map_cons, mm_v, e9] at h9 k9
        exact lv_aload hx hb hd h9 k9
    · cases h
  case aload_n j =>
    split at h
    · rename_i x hx1
      cases h
      exact lv_aload_n hx hb hd rfl (hl.2.2.2 _ _ hx1) (k ls hl)
    · rename_i hx1
      cases h
      exact lv_aload_nN hx hb hd rfl (hl.2.2.2 _ _ hx1) (k ls hl)
    · rename_i x hx1
      cases h
      have h9 := hl.2.2.2 _ _ hx1
      have k9 := k ls hl
      rcases ho x with e9 | ⟨a, e9⟩
      · simp only [List.map_cons, mm_v, e9] at h9 k9
        exact lv_aload_nN hx hb hd rfl h9 k9
      · simp only [List.map_cons, mm_v, e9] at h9 k9
        exact lv_aload_n hx hb hd rfl h9 k9
    · cases h
  case istore j =>
    split at h
    · obtain ⟨L2, h1, h2⟩ := mm_map_inv h
      cases h2
      exact lv_istore hx hb hd hH (hl.2.2.1 ▸ (mm_st1_len h1).1) rfl (fun ls' h' => k ls' (mm_st1_lh ho hl.2.2.1 h1 h'))
    · cases h
  case istore_n j =>
    split at h
    · obtain ⟨L2, h1, h2⟩ := mm_map_inv h
      cases h2
      exact lv_istore_n hx hb hd rfl hH (hl.2.2.1 ▸ (mm_st1_len h1).1) rfl (fun ls' h' => k ls' (mm_st1_lh ho hl.2.2.1 h1 h'))
    · cases h
  case lstore j =>
    split at h
    · obtain ⟨L2, h1, h2⟩ := mm_map_inv h
      cases h2
      exact lv_lstore hx hb hd hH (hl.2.2.1 ▸ (mm_st2_len h1).1) rfl (fun ls' h' => k ls' (mm_st2_lh ho hl.2.2.1 h1 h'))
    · cases h
  case lstore_n j =>
    split at h
    · obtain ⟨L2, h1, h2⟩ := mm_map_inv h
      cases h2
      exact lv_lstore_n hx hb hd rfl hH (hl.2.2.1 ▸ (mm_st2_len h1).1) rfl (fun ls' h' => k ls' (mm_st2_lh ho hl.2.2.1 h1 h'))
    · cases h
  case dstore j =>
    split at h
    · obtain ⟨L2, h1, h2⟩ := mm_map_inv h
      cases h2
      exact lv_dstore hx hb hd hH (hl.2.2.1 ▸ (mm_st2_len h1).1) rfl (fun ls' h' => k ls' (mm_st2_lh ho hl.2.2.1 h1 h'))
    · cases h
  case dstore_n j =>
    split at h
    · obtain ⟨L2, h1, h2⟩ := mm_map_inv h
      cases h2
      exact lv_dstore_n hx hb hd rfl hH (hl.2.2.1 ▸ (mm_st2_len h1).1) rfl (fun ls' h' => k ls' (mm_st2_lh ho hl.2.2.1 h1 h'))
    · cases h
  case astore j =>
    split at h
    · obtain ⟨L2, h1, h2⟩ := mm_map_inv h
      cases h2
      exact lv_astore hx hb hd hH (hl.2.2.1 ▸ (mm_st1_len h1).1) rfl (fun ls' h' => k ls' (mm_st1_lh ho hl.2.2.1 h1 h'))
    · obtain ⟨L2, h1, h2⟩ := mm_map_inv h
      cases h2
      exact lv_astoreN hx hb hd hH (hl.2.2.1 ▸ (mm_st1_len h1).1) rfl (fun ls' h' => k ls' (mm_st1_lh ho hl.2.2.1 h1 h'))
    · cases h
  case astore_n j =>
    split at h
    · obtain ⟨L2, h1, h2⟩ := mm_map_inv h
      cases h2
      exact lv_astore_n hx hb hd rfl hH (hl.2.2.1 ▸ (mm_st1_len h1).1) rfl (fun ls' h' => k ls' (mm_st1_lh ho hl.2.2.1 h1 h'))
    · obtain ⟨L2, h1, h2⟩ := mm_map_inv h
      cases h2
      exact lv_astore_nN hx hb hd rfl hH (hl.2.2.1 ▸ (mm_st1_len h1).1) rfl (fun ls' h' => k ls' (mm_st1_lh ho hl.2.2.1 h1 h'))
    · cases h
  case iinc j n =>
    split at h
    · rename_i x hx1
      obtain ⟨L2, h1, h2⟩ := mm_map_inv h
      cases h2
      obtain ⟨q, hq⟩ := List.getElem?_of_mem (mm_prs_mem (rho := rho) (opq := opq) hx1)
      exact lv_iinc hx hb hd hH hq rfl (hl.2.2.1 ▸ (mm_st1_len h1).1) rfl (fun ls' h' => k ls' (mm_st1_lh ho hl.2.2.1 h1 h'))
    · cases h
end MML
