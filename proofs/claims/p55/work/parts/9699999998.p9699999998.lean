/-! THE START: runs that touch only what they made themselves, over any older memory -/
def fw_R (D X : List mm_C) (a b : mm_H) : Prop := ∃ T w, a = (D ++ T, w) ∧ b = (X ++ T, w)
def fw_D (D : List mm_C) : Prop := ∀ a, a < D.length → D[a]? = some (.inr (999, []))
def fw_ok (op : mm_Op) : Bool := match op with
  | (0, _, _, _, _, _, _) => true
  | (1, _, _, _, _, _, _) => true
  | (2, _, _, _, _, _, _) => true
  | (3, _, _, _, _, _, _) => true
  | (4, _, _, _, _, _, _) => true
  | (5, _, _, _, _, _, _) => true
  | (6, _, _, _, _, _, _) => true
  | (7, a, _, _, _, _, _) => Nat.blt a 900
  | (8, a, _, _, _, _, _) => Nat.blt a 900
  | (9, _, _, _, _, _, _) => true
  | (10, _, _, _, _, _, _) => true
  | (11, _, _, _, _, _, _) => true
  | (12, _, _, _, _, _, _) => true
  | (13, _, _, _, _, i, _) => (match i with
    | .lastore => true
    | .aastore => true
    | _ => false)
  | (14, _, _, _, _, _, _) => true
  | (15, _, _, c, _, _, _) => Nat.blt c 900
  | (17, _, _, _, _, _, _) => true
  | (18, _, _, _, _, _, _) => true
  | (19, _, _, _, _, _, _) => true
  | (20, _, _, _, _, _, _) => true
  | _ => false
def fw_N (D X : List mm_C) (n n' : mm_N) : Prop := match n, n' with
  | .inl (p, L, S, a), .inl (p', L', S', b) => p' = p ∧ L' = L ∧ S' = S ∧ fw_R D X a b
  | .inr (o, a), .inr (o', b) => o' = o ∧ fw_R D X a b
  | _, _ => False
section FW
variable {D X : List mm_C} {p0 p : Nat → Option (Nat × vp_A)} {PQ : (Nat → Nat → Option Value) × (Nat → Option Value) × (Nat → Option Value) × (Nat → Option (List Value)) × (Nat → Nat → Option FieldType)} {a b : mm_H}
theorem fw_at (hl : D.length = X.length) (hD : fw_D D) {T : List mm_C} {x : Nat} {c : mm_C} (h : (D ++ T)[x]? = some c) (hc : c ≠ .inr (999, [])) : D.length ≤ x ∧ (X ++ T)[x]? = some c := by
  by_cases ha : x < D.length
  · rw [List.getElem?_append_left ha, hD x ha] at h
    exact absurd (Option.some.inj h).symm hc
  · have h2 : D.length ≤ x := by omega
    rw [List.getElem?_append_right h2] at h
    exact ⟨h2, by rw [List.getElem?_append_right (by omega), ← hl]; exact h⟩
theorem fw_set (hl : D.length = X.length) (hD : fw_D D) {T : List mm_C} {w : Bool × Nat × Nat} {x : Nat} (h : D.length ≤ x) (c : mm_C) : fw_R D X (mm_set (D ++ T, w) x c) (mm_set (X ++ T, w) x c) := by
  refine ⟨T.set (x - D.length) c, w, ?_, ?_⟩
  · show ((D ++ T).set x c, w) = _
    rw [List.set_append_right _ _ h]
  · show ((X ++ T).set x c, w) = _
    rw [List.set_append_right _ _ (by omega), hl]
theorem fw_getf (hl : D.length = X.length) (hD : fw_D D) {ci k : Nat} {S r : List Value} (hR : fw_R D X a b) (hk : ci < 900) (h : mm_getf a ci k S = some r) : mm_getf b ci k S = some r := by
  obtain ⟨T, w, rfl, rfl⟩ := hR
  unfold mm_getf at h ⊢
  split at h
  · rename_i x r9
    split at h
    · rename_i c fs e
      split at h
      · rename_i ec
        have g := (fw_at hl hD e (by intro q; cases q; omega)).2
        simp only [g, if_pos ec]
        exact h
      · cases h
    · cases h
  · cases h
theorem fw_putf (hl : D.length = X.length) (hD : fw_D D) {ci k : Nat} {S r : List Value} {a' : mm_H} (hR : fw_R D X a b) (hk : ci < 900) (h : mm_putf (p0, PQ) a ci k S = some (a', r)) : ∃ b', mm_putf (p, PQ) b ci k S = some (b', r) ∧ fw_R D X a' b' := by
  obtain ⟨T, w, rfl, rfl⟩ := hR
  unfold mm_putf at h ⊢
  split at h
  · rename_i v x r9
    split at h
    · rename_i c fs e
      split at h
      · rename_i ec
        split at h
        · rename_i ty et
          split at h
          · rename_i hf
            obtain ⟨g1, g2⟩ := fw_at hl hD e (by intro q; cases q; omega)
            cases h
            refine ⟨mm_set (X ++ T, w) x (.inr (c, fs.set k v)), ?_, fw_set hl hD g1 _⟩
            simp only [g2, if_pos ec, show PQ.2.2.2.2 ci k = some ty from et, if_pos hf]
          · cases h
        · cases h
      · cases h
    · cases h
  · cases h
theorem fw_new (hl : D.length = X.length) (hD : fw_D D) {ci : Nat} {v : Value} {a' : mm_H} (hR : fw_R D X a b) (h : mm_new (p0, PQ) a ci = some (a', v)) : ∃ b', mm_new (p, PQ) b ci = some (b', v) ∧ fw_R D X a' b' := by
  obtain ⟨T, w, rfl, rfl⟩ := hR
  have e : (D ++ T).length = (X ++ T).length := by rw [List.length_append, List.length_append, hl]
  unfold mm_new at h ⊢
  split at h
  · rename_i hq
    split at h
    · rename_i fs ef
      cases h
      have hq2 : w.1 = true ∧ (X ++ T).length < 1000000 := e ▸ hq
      refine ⟨mm_add (X ++ T, w) (.inr (ci, fs)) fs.length, ?_, T ++ [.inr (ci, fs)], (w.1, w.2.1 + 1, w.2.2 + fs.length), ?_, ?_⟩
      · simp only [if_pos hq2, show PQ.2.2.2.1 ci = some fs from ef, e]
      · show ((D ++ T) ++ _, _) = _
        rw [List.append_assoc]
      · show ((X ++ T) ++ _, _) = _
        rw [List.append_assoc]
    · cases h
  · cases h
theorem fw_newa (hl : D.length = X.length) (hD : fw_D D) {t : Nat} {S r : List Value} {a' : mm_H} (hR : fw_R D X a b) (h : mm_newa a t S = some (a', r)) : ∃ b', mm_newa b t S = some (b', r) ∧ fw_R D X a' b' := by
  obtain ⟨T, w, rfl, rfl⟩ := hR
  have e : (D ++ T).length = (X ++ T).length := by rw [List.length_append, List.length_append, hl]
  unfold mm_newa at h ⊢
  split at h
  · rename_i n r9
    split at h
    · rename_i hq
      split at h
      · rename_i x ex
        cases h
        have hq2 : w.1 = true ∧ (X ++ T).length < 1000000 ∧ ¬ n < 0 ∧ n.toNatClampNeg < 1000000 := e ▸ hq
        refine ⟨mm_add (X ++ T, w) (.inl (t, x)) n.toNatClampNeg, ?_, T ++ [.inl (t, x)], (w.1, w.2.1 + 1, w.2.2 + n.toNatClampNeg), ?_, ?_⟩
        · simp only [if_pos hq2, ex, e]
        · show ((D ++ T) ++ _, _) = _
          rw [List.append_assoc]
        · show ((X ++ T) ++ _, _) = _
          rw [List.append_assoc]
      · cases h
    · cases h
  · cases h
theorem fw_awr (hl : D.length = X.length) (hD : fw_D D) {i : Instr} {S r : List Value} {a' : mm_H} (hR : fw_R D X a b) (hi : i = .lastore ∨ i = .aastore) (h : mm_awr i a S = some (a', r)) : ∃ b', mm_awr i b S = some (b', r) ∧ fw_R D X a' b' := by
  obtain ⟨T, w, rfl, rfl⟩ := hR
  rcases hi with rfl | rfl
  · simp only [mm_awr] at h ⊢
    split at h
    · rename_i x j y r9
      split at h
      · rename_i n f e
        split at h
        · cases h
        · rename_i hq
          obtain ⟨g1, g2⟩ := fw_at hl hD e (by intro q; cases q)
          cases h
          exact ⟨_, by simp only [g2, if_neg hq], fw_set hl hD g1 _⟩
      · cases h
    · cases h
  · simp only [mm_awr] at h ⊢
    split at h
    · rename_i v j y r9
      split at h
      · rename_i n f e
        split at h
        · cases h
        · rename_i hq
          split at h
          · rename_i fs e2
            obtain ⟨g1, g2⟩ := fw_at hl hD e (by intro q; cases q)
            obtain ⟨g3, g4⟩ := fw_at hl hD e2 (by intro q; cases q)
            cases h
            exact ⟨_, by simp only [g2, if_neg hq, g4], fw_set hl hD g1 _⟩
          · cases h
      · cases h
    · cases h
theorem fw_isr (hl : D.length = X.length) (hD : fw_D D) {ci : Nat} {A : List Value} (hR : fw_R D X a b) (hk : ci < 900) (h : mm_isr (p0, PQ) a ci A = true) : mm_isr (p, PQ) b ci A = true := by
  obtain ⟨T, w, rfl, rfl⟩ := hR
  unfold mm_isr at h ⊢
  split at h
  · rename_i x r9
    split at h
    · rename_i e
      simp only [if_pos e]
      split at h
      · rename_i e1
        simp only [if_pos e1]
        split at h
        · rename_i c fs e2
          have e3 : c = 11 := eq_of_beq h
          have g := (fw_at hl hD e2 (by intro q; cases q; omega)).2
          simp only [g]
          exact h
        · cases h
      · rename_i e1
        simp only [if_neg e1]
        exact h
    · rename_i e
      split at h
      · rename_i c fs e2
        have e3 : c = ci := eq_of_beq h
        have g := (fw_at hl hD e2 (by intro q; cases q; omega)).2
        simp only [if_neg e, g]
        exact h
      · cases h
  · cases h
theorem fw_back {hs : List (String × Nat × Nat × Nat)} {pc : Nat} {L : mm_L} {rest : List Value} {o : Option Value ⊕ String} {n : mm_N} (hR : fw_R D X a b) (h : mm_back hs pc L rest (o, a) = some n) : ∃ n', mm_back hs pc L rest (o, b) = some n' ∧ fw_N D X n n' := by
  unfold mm_back at h ⊢
  cases o with
  | inl v =>
    cases h
    refine ⟨_, rfl, ?_⟩
    exact ⟨rfl, rfl, rfl, hR⟩
  | inr E =>
    cases hs with
    | nil =>
      cases h
      refine ⟨_, rfl, ?_⟩
      exact ⟨rfl, hR⟩
    | cons q hs =>
      dsimp only at h ⊢
      split at h
      · rename_i e
        split at h
        · rename_i hk
          cases h
          rw [if_pos hk]
          refine ⟨_, rfl, ?_⟩
          exact ⟨rfl, rfl, rfl, hR⟩
        · cases h
      · cases h
theorem fw_arr (hl : D.length = X.length) (hD : fw_D D) (hp : ∀ x y, p0 x = some y → p x = some y) {x : Nat} {y : Nat × vp_A} (hR : fw_R D X a b) (h : mm_arr p0 a x = some y) : mm_arr p b x = some y := by
  obtain ⟨T, w, rfl, rfl⟩ := hR
  unfold mm_arr at h ⊢
  split at h
  · rename_i hx
    rw [if_pos hx]
    split at h
    · rename_i z e
      have g := (fw_at hl hD e (by intro q; cases q)).2
      simp only [g]
      exact h
    · cases h
  · rename_i hx
    rw [if_neg hx]
    exact hp _ _ h
theorem fw_ard (hl : D.length = X.length) (hD : fw_D D) (hp : ∀ x y, p0 x = some y → p x = some y) {i : Instr} {S r : List Value} (hR : fw_R D X a b) (h : mm_ard p0 i a S = some r) : mm_ard p i b S = some r := by
  cases i <;> simp only [mm_ard, reduceCtorEq] at h ⊢
  all_goals
    split at h
    · rename_i x r9
      cases hA : mm_arr p0 a x with
      | none => rw [hA] at h; cases h
      | some q =>
        simp only [fw_arr hl hD hp hR hA]
        rw [hA] at h
        exact h
    · cases h
theorem fw_getO (hl : D.length = X.length) (hD : fw_D D) {k : Nat} {S r : List Value} (hR : fw_R D X a b) (h : mm_getO (p0, PQ) a k S = some r) : mm_getO (p, PQ) b k S = some r := by
  unfold mm_getO at h ⊢
  split at h
  · rename_i x r9
    split at h
    · rename_i hx
      simp only [if_pos hx]
      exact fw_getf hl hD hR (by decide) h
    · rename_i hx
      simp only [if_neg hx]
      exact h
  · cases h
theorem fw_none (hl : D.length = X.length) {T : List mm_C} {x : Nat} (h : (D ++ T)[x]? = none) : (X ++ T)[x]? = none := by
  rw [List.getElem?_eq_none_iff, List.length_append] at h ⊢
  omega
theorem fw_copy (hl : D.length = X.length) (hD : fw_D D) (hp : ∀ x y, p0 x = some y → p x = some y) {S r : List Value} {a' : mm_H} (hR : fw_R D X a b) (h : mm_copy (p0, PQ) a S = some (a', r)) : ∃ b', mm_copy (p, PQ) b S = some (b', r) ∧ fw_R D X a' b' := by
  obtain ⟨T, w, rfl, rfl⟩ := hR
  unfold mm_copy at h ⊢
  split at h
  · split at h
    · cases h
    · rename_i h0
      simp only [if_neg h0]
      split at h
      · rename_i e1 e2
        split at h
        · rename_i hq
          obtain ⟨-, g2⟩ := fw_at hl hD e1 (by intro q; cases q)
          obtain ⟨g3, g4⟩ := fw_at hl hD e2 (by intro q; cases q)
          cases h
          exact ⟨_, by simp only [g2, g4, if_pos hq], fw_set hl hD g3 _⟩
        · cases h
      · rename_i e1 e2
        split at h
        · rename_i hq
          obtain ⟨-, g2⟩ := fw_at hl hD e1 (by intro q; cases q)
          obtain ⟨g3, g4⟩ := fw_at hl hD e2 (by intro q; cases q)
          cases h
          exact ⟨_, by simp only [g2, g4, if_pos hq], fw_set hl hD g3 _⟩
        · cases h
      · rename_i e1 e2
        split at h
        · rename_i hq
          obtain ⟨-, g2⟩ := fw_at hl hD e1 (by intro q; cases q)
          obtain ⟨g3, g4⟩ := fw_at hl hD e2 (by intro q; cases q)
          cases h
          exact ⟨_, by simp only [g2, g4, if_pos hq], fw_set hl hD g3 _⟩
        · cases h
      · rename_i e1 e2
        split at h
        · rename_i e3
          split at h
          · rename_i hq
            have g2 := fw_none hl e1
            obtain ⟨g3, g4⟩ := fw_at hl hD e2 (by intro q; cases q)
            cases h
            exact ⟨_, by simp only [g2, g4, hp _ _ e3, if_pos hq], fw_set hl hD g3 _⟩
          · cases h
        · cases h
      · cases h
  · cases h
theorem fw_clone (hl : D.length = X.length) (hD : fw_D D) {S r : List Value} {a' : mm_H} (hR : fw_R D X a b) (h : mm_clone a S = some (a', r)) : ∃ b', mm_clone b S = some (b', r) ∧ fw_R D X a' b' := by
  obtain ⟨T, w, rfl, rfl⟩ := hR
  have e : (D ++ T).length = (X ++ T).length := by rw [List.length_append, List.length_append, hl]
  unfold mm_clone at h ⊢
  split at h
  · split at h
    · rename_i n f e1
      split at h
      · rename_i hq
        obtain ⟨-, g2⟩ := fw_at hl hD e1 (by intro q; cases q)
        cases h
        have hq2 : w.1 = true ∧ (X ++ T).length < 1000000 ∧ mm_byt f 0 n = true := e ▸ hq
        refine ⟨mm_add (X ++ T, w) (.inl (2, n, .inl f)) n, ?_, T ++ [.inl (2, n, .inl f)], (w.1, w.2.1 + 1, w.2.2 + n), ?_, ?_⟩
        · simp only [g2, if_pos hq2, e]
        · show ((D ++ T) ++ _, _) = _
          rw [List.append_assoc]
        · show ((X ++ T) ++ _, _) = _
          rw [List.append_assoc]
      · cases h
    · cases h
  · cases h
theorem fw_step (hl : D.length = X.length) (hD : fw_D D) (hp : ∀ x y, p0 x = some y → p x = some y) {call0 call : Nat → List Value → mm_H → Option mm_R} (hc : ∀ y A a b r, fw_R D X a b → call0 y A a = some r → ∃ σ, call y A b = some (r.1, σ) ∧ fw_R D X r.2 σ) {op : mm_Op} {pc len : Nat} {L : mm_L} {S : List Value} {n : mm_N} (hR : fw_R D X a b) (ho : fw_ok op = true) (h : mm_step (p0, PQ) call0 op pc len L S a = some n) : ∃ n', mm_step (p, PQ) call op pc len L S b = some n' ∧ fw_N D X n n' := by
  unfold fw_ok at ho
  split at ho
  · simp only [mm_step] at h ⊢
    split at h
    · rename_i e
      cases h
      refine ⟨_, rfl, ?_⟩
      exact ⟨rfl, rfl, rfl, hR⟩
    · cases h
  · simp only [mm_step] at h ⊢
    split at h
    · rename_i e
      cases h
      refine ⟨_, rfl, ?_⟩
      exact ⟨rfl, rfl, rfl, hR⟩
    · cases h
  · simp only [mm_step] at h ⊢
    split at h
    · rename_i e
      cases h
      refine ⟨_, rfl, ?_⟩
      exact ⟨rfl, rfl, rfl, hR⟩
    · cases h
  · simp only [mm_step] at h ⊢
    split at h
    · rename_i e
      cases h
      rw [fw_ard hl hD hp hR e]
      refine ⟨_, rfl, ?_⟩
      exact ⟨rfl, rfl, rfl, hR⟩
    · cases h
  · simp only [mm_step] at h ⊢
    split at h
    · rename_i e
      cases h
      refine ⟨_, rfl, ?_⟩
      exact ⟨rfl, hR⟩
    · cases h
  · simp only [mm_step] at h ⊢
    split at h
    · rename_i e
      cases h
      refine ⟨_, rfl, ?_⟩
      exact ⟨rfl, rfl, rfl, hR⟩
    · cases h
  · simp only [mm_step] at h ⊢
    cases h
    refine ⟨_, rfl, ?_⟩
    exact ⟨rfl, rfl, rfl, hR⟩
  · simp only [mm_step] at h ⊢
    split at h
    · rename_i e
      cases h
      rw [fw_getf hl hD hR (Nat.blt_eq.mp ho) e]
      refine ⟨_, rfl, ?_⟩
      exact ⟨rfl, rfl, rfl, hR⟩
    · cases h
  · simp only [mm_step] at h ⊢
    split at h
    · rename_i e
      cases h
      obtain ⟨b', g1, g2⟩ := fw_putf (p := p) hl hD hR (Nat.blt_eq.mp ho) e
      rw [g1]
      refine ⟨_, rfl, ?_⟩
      exact ⟨rfl, rfl, rfl, g2⟩
    · cases h
  · simp only [mm_step] at h ⊢
    split at h
    · rename_i e
      cases h
      refine ⟨_, rfl, ?_⟩
      exact ⟨rfl, rfl, rfl, hR⟩
    · cases h
  · simp only [mm_step] at h ⊢
    split at h
    · rename_i e
      cases h
      rw [fw_getO (p := p) hl hD hR e]
      refine ⟨_, rfl, ?_⟩
      exact ⟨rfl, rfl, rfl, hR⟩
    · cases h
  · simp only [mm_step] at h ⊢
    split at h
    · rename_i e
      cases h
      obtain ⟨b', g1, g2⟩ := fw_new (p := p) hl hD hR e
      rw [g1]
      refine ⟨_, rfl, ?_⟩
      exact ⟨rfl, rfl, rfl, g2⟩
    · cases h
  · simp only [mm_step] at h ⊢
    split at h
    · rename_i e
      cases h
      obtain ⟨b', g1, g2⟩ := fw_newa hl hD hR e
      rw [g1]
      refine ⟨_, rfl, ?_⟩
      exact ⟨rfl, rfl, rfl, g2⟩
    · cases h
  · simp only [mm_step] at h ⊢
    split at h
    · rename_i e
      cases h
      split at ho
      · obtain ⟨b', g1, g2⟩ := fw_awr hl hD hR (Or.inl rfl) e
        rw [g1]
        refine ⟨_, rfl, ?_⟩
        exact ⟨rfl, rfl, rfl, g2⟩
      · obtain ⟨b', g1, g2⟩ := fw_awr hl hD hR (Or.inr rfl) e
        rw [g1]
        refine ⟨_, rfl, ?_⟩
        exact ⟨rfl, rfl, rfl, g2⟩
      · cases ho
    · cases h
  · simp only [mm_step] at h ⊢
    split at h
    · split at h
      · rename_i e
        cases h
        rw [if_pos e]
        refine ⟨_, rfl, ?_⟩
        exact ⟨rfl, rfl, rfl, hR⟩
      · cases h
    · cases h
  · simp only [mm_step] at h ⊢
    split at h
    · rename_i A r9 e
      split at h
      · rename_i hq
        split at h
        · rename_i res e2
          obtain ⟨σ, g1, g2⟩ := hc _ _ _ _ _ hR e2
          obtain ⟨n', g3, g4⟩ := fw_back g2 h
          have hq2 := hq.imp id (fun z => fw_isr (p := p) hl hD hR (Nat.blt_eq.mp ho) z)
          rw [if_pos hq2, g1]
          exact ⟨n', g3, g4⟩
        · cases h
      · cases h
    · cases h
  · simp only [mm_step] at h ⊢
    split at h
    · rename_i e
      split at h
      · rename_i h24
        cases h
        obtain ⟨b', g1, g2⟩ := fw_copy (p := p) hl hD hp hR e
        rw [g1]
        simp only [if_pos h24]
        refine ⟨_, rfl, ?_⟩
        exact ⟨rfl, rfl, rfl, g2⟩
      · cases h
    · cases h
  · simp only [mm_step] at h ⊢
    split at h
    · split at h
      · rename_i h24
        cases h
        simp only [if_pos h24]
        refine ⟨_, rfl, ?_⟩
        exact ⟨rfl, rfl, rfl, hR⟩
      · cases h
    · cases h
  · simp only [mm_step] at h ⊢
    split at h
    · split at h
      · rename_i h24
        cases h
        simp only [if_pos h24]
        refine ⟨_, rfl, ?_⟩
        exact ⟨rfl, rfl, rfl, hR⟩
      · cases h
    · cases h
  · simp only [mm_step] at h ⊢
    split at h
    · rename_i e
      split at h
      · rename_i h24
        cases h
        obtain ⟨b', g1, g2⟩ := fw_clone hl hD hR e
        rw [g1]
        simp only [if_pos h24]
        refine ⟨_, rfl, ?_⟩
        exact ⟨rfl, rfl, rfl, g2⟩
      · cases h
    · cases h
  · cases ho
end FW
def fw_go (P : mm_P) (call : Nat → List Value → mm_H → Option mm_R) (code : mm_Code) (stop : Nat) : Nat → Nat → mm_L → List Value → mm_H → Option mm_N
  | 0, _, _, _, _ => none
  | n + 1, pc, L, S, σ => if pc = stop then some (.inl (pc, L, S, σ)) else (match code.lookup pc with
    | some (len, op) => if fw_ok op = true then (match mm_step P call op pc len L S σ with
      | some (.inl (pc', L', S', σ')) => fw_go P call code stop n pc' L' S' σ'
      | some (.inr r) => some (.inr r)
      | none => none) else none
    | none => none)
def fw_run (P : mm_P) (M : Nat → Option (mm_Code × Nat)) (N : Nat) : Nat → Nat → List Value → mm_H → Option mm_R
  | 0, _, _, _ => none
  | d + 1, y, A, σ => match M y with
    | some (code, nL) => if (mm_args A).length ≤ nL then (match fw_go P (fw_run P M N d) code 1000000 N 0 (mm_entry A nL) [] σ with
      | some (.inr r) => some r
      | _ => none) else none
    | none => none
section FW
variable {D X : List mm_C} {p0 p : Nat → Option (Nat × vp_A)} {PQ : (Nat → Nat → Option Value) × (Nat → Option Value) × (Nat → Option Value) × (Nat → Option (List Value)) × (Nat → Nat → Option FieldType)}
theorem fw_go_r (hl : D.length = X.length) (hD : fw_D D) (hp : ∀ x y, p0 x = some y → p x = some y) {call0 call : Nat → List Value → mm_H → Option mm_R} (hc : ∀ y A a b r, fw_R D X a b → call0 y A a = some r → ∃ σ, call y A b = some (r.1, σ) ∧ fw_R D X r.2 σ) {code : mm_Code} {stop : Nat} {r : mm_R} : ∀ {n pc : Nat} {L : mm_L} {S : List Value} {a b : mm_H}, fw_R D X a b → fw_go (p0, PQ) call0 code stop n pc L S a = some (.inr r) → ∃ σ, mm_go (p, PQ) call code n pc L S b = some (r.1, σ) ∧ fw_R D X r.2 σ
  | 0, _, _, _, _, _, _, h => by cases h
  | n + 1, pc, L, S, a, b, hR, h => by
    simp only [fw_go] at h
    simp only [mm_go]
    split at h
    · cases h
    · split at h
      · rename_i len op e
        split at h
        · rename_i ho
          split at h
          · rename_i pc' L' S' σ' e2
            obtain ⟨n', g1, g2⟩ := fw_step (p := p) hl hD hp hc hR ho e2
            simp only [e, g1]
            rcases n' with ⟨p9, L9, S9, b9⟩ | ⟨o9, b9⟩
            · obtain ⟨rfl, rfl, rfl, g3⟩ := g2
              exact fw_go_r hl hD hp hc g3 h
            · exact g2.elim
          · rename_i r9 e2
            cases h
            obtain ⟨n', g1, g2⟩ := fw_step (p := p) hl hD hp hc hR ho e2
            simp only [e, g1]
            rcases n' with ⟨p9, L9, S9, b9⟩ | ⟨o9, b9⟩
            · exact g2.elim
            · obtain ⟨rfl, g3⟩ := g2
              exact ⟨b9, rfl, g3⟩
          · cases h
        · cases h
      · cases h
theorem fw_go_l (hl : D.length = X.length) (hD : fw_D D) (hp : ∀ x y, p0 x = some y → p x = some y) {call0 call : Nat → List Value → mm_H → Option mm_R} (hc : ∀ y A a b r, fw_R D X a b → call0 y A a = some r → ∃ σ, call y A b = some (r.1, σ) ∧ fw_R D X r.2 σ) {code : mm_Code} {stop pc1 : Nat} {L1 : mm_L} {S1 : List Value} {a1 : mm_H} : ∀ {n pc : Nat} {L : mm_L} {S : List Value} {a b : mm_H}, fw_R D X a b → fw_go (p0, PQ) call0 code stop n pc L S a = some (.inl (pc1, L1, S1, a1)) → ∃ b1, fw_R D X a1 b1 ∧ ∀ k r, mm_go (p, PQ) call code k pc1 L1 S1 b1 = some r → mm_go (p, PQ) call code (k + n) pc L S b = some r
  | 0, _, _, _, _, _, _, h => by cases h
  | n + 1, pc, L, S, a, b, hR, h => by
    simp only [fw_go] at h
    split at h
    · cases h
      exact ⟨b, hR, fun k r hk => mm_go_fuel (fun _ _ _ _ z => z) hk (by omega)⟩
    · split at h
      · rename_i len op e
        split at h
        · rename_i ho
          split at h
          · rename_i pc' L' S' σ' e2
            obtain ⟨n', g1, g2⟩ := fw_step (p := p) hl hD hp hc hR ho e2
            rcases n' with ⟨p9, L9, S9, b9⟩ | ⟨o9, b9⟩
            · obtain ⟨rfl, rfl, rfl, g3⟩ := g2
              obtain ⟨b1, g4, g5⟩ := fw_go_l hl hD hp hc g3 h
              refine ⟨b1, g4, fun k r hk => ?_⟩
              show mm_go (p, PQ) call code ((k + n) + 1) pc L S b = some r
              simp only [mm_go, e, g1]
              exact g5 k r hk
            · exact g2.elim
          · cases h
          · cases h
        · cases h
      · cases h
theorem fw_run_ok (hl : D.length = X.length) (hD : fw_D D) (hp : ∀ x y, p0 x = some y → p x = some y) {M : Nat → Option (mm_Code × Nat)} {N : Nat} : ∀ (d y : Nat) (A : List Value) (a b : mm_H) (r : mm_R), fw_R D X a b → fw_run (p0, PQ) M N d y A a = some r → ∃ σ, mm_run (p, PQ) M N d y A b = some (r.1, σ) ∧ fw_R D X r.2 σ
  | 0, _, _, _, _, _, _, h => by cases h
  | d + 1, y, A, a, b, r, hR, h => by
    simp only [fw_run] at h
    simp only [mm_run]
    split at h
    · rename_i code nL e
      split at h
      · rename_i hA
        split at h
        · rename_i r9 e2
          cases h
          simp only [e, if_pos hA]
          exact fw_go_r hl hD hp (fun y A a b r => fw_run_ok hl hD hp d y A a b r) hR e2
        · cases h
      · cases h
    · cases h
end FW
