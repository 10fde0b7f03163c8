/-! how the counts of the mini machine's heap grow -/
def mm_mono (σ σ' : mm_H) : Prop := σ.2.2.1 ≤ σ'.2.2.1 ∧ σ.2.2.2 ≤ σ'.2.2.2 ∧ (σ'.2.1 = true → σ.2.1 = true ∧ σ'.2.2.1 + σ.1.length = σ.2.2.1 + σ'.1.length)
theorem mm_mono_rf (σ : mm_H) : mm_mono σ σ := ⟨Nat.le_refl _, Nat.le_refl _, fun h => ⟨h, rfl⟩⟩
theorem mm_mono_tr {a b c : mm_H} (h : mm_mono a b) (h2 : mm_mono b c) : mm_mono a c := by
  refine ⟨Nat.le_trans h.1 h2.1, Nat.le_trans h.2.1 h2.2.1, fun hc => ?_⟩
  obtain ⟨g1, g2⟩ := h2.2.2 hc
  obtain ⟨g3, g4⟩ := h.2.2 g1
  exact ⟨g3, by omega⟩
theorem mm_mono_set (σ : mm_H) (a : Nat) (x : mm_C) : mm_mono σ (mm_set σ a x) := by
  refine ⟨Nat.le_refl _, Nat.le_refl _, fun h => ⟨h, ?_⟩⟩
  simp [mm_set]
theorem mm_mono_add (σ : mm_H) (x : mm_C) (n : Nat) : mm_mono σ (mm_add σ x n) := by
  refine ⟨Nat.le_succ _, Nat.le_add_right _ _, fun h => ⟨h, ?_⟩⟩
  show σ.2.2.1 + 1 + σ.1.length = σ.2.2.1 + (σ.1 ++ [x]).length
  rw [List.length_append, List.length_singleton]
  omega
theorem mm_mono_thr (σ : mm_H) : mm_mono σ (σ.1, false, σ.2.2.1 + 1, σ.2.2.2 + 6) := ⟨Nat.le_succ _, Nat.le_add_right _ _, fun h => nomatch h⟩
theorem mm_awr_mono {i : Instr} {σ σ' : mm_H} {S r : List Value} (h : mm_awr i σ S = some (σ', r)) : mm_mono σ σ' := by
  cases i <;> simp only [mm_awr, reduceCtorEq] at h
  all_goals
    repeat' (first | cases h | split at h)
    all_goals exact mm_mono_set _ _ _
theorem mm_putf_mono {P : mm_P} {σ σ' : mm_H} {ci k : Nat} {S r : List Value} (h : mm_putf P σ ci k S = some (σ', r)) : mm_mono σ σ' := by
  unfold mm_putf at h
  repeat' (first | cases h | split at h)
  all_goals exact mm_mono_set _ _ _
theorem mm_new_mono {P : mm_P} {σ σ' : mm_H} {ci : Nat} {v : Value} (h : mm_new P σ ci = some (σ', v)) : mm_mono σ σ' := by
  unfold mm_new at h
  repeat' (first | cases h | split at h)
  all_goals exact mm_mono_add _ _ _
theorem mm_newa_mono {σ σ' : mm_H} {t : Nat} {S r : List Value} (h : mm_newa σ t S = some (σ', r)) : mm_mono σ σ' := by
  unfold mm_newa at h
  repeat' (first | cases h | split at h)
  all_goals exact mm_mono_add _ _ _
theorem mm_copy_mono {P : mm_P} {σ σ' : mm_H} {S r : List Value} (h : mm_copy P σ S = some (σ', r)) : mm_mono σ σ' := by
  unfold mm_copy at h
  repeat' (first | cases h | split at h)
  all_goals exact mm_mono_set _ _ _
theorem mm_clone_mono {σ σ' : mm_H} {S r : List Value} (h : mm_clone σ S = some (σ', r)) : mm_mono σ σ' := by
  unfold mm_clone at h
  repeat' (first | cases h | split at h)
  all_goals exact mm_mono_add _ _ _
def mm_nx (n : mm_N) : mm_H := match n with
  | .inl q => q.2.2.2
  | .inr r => r.2
theorem mm_back_eq {hs : List (String × Nat × Nat × Nat)} {pc : Nat} {L : mm_L} {rest : List Value} {r : mm_R} {n : mm_N} (h : mm_back hs pc L rest r = some n) : mm_nx n = r.2 := by
  unfold mm_back at h
  repeat' (first | cases h | split at h)
  all_goals rfl
theorem mm_step_mono {P : mm_P} {call : Nat → List Value → mm_H → Option mm_R} (hc : ∀ y A σ r, call y A σ = some r → mm_mono σ r.2) {op : mm_Op} {pc len : Nat} {L : mm_L} {S : List Value} {σ : mm_H} {n : mm_N} (h : mm_step P call op pc len L S σ = some n) : mm_mono σ (mm_nx n) := by
  unfold mm_step at h
  split at h
  case h_16 =>
    split at h
    · split at h
      · split at h
        · rename_i hcall
          rw [mm_back_eq h]
          exact hc _ _ _ _ hcall
        · cases h
      · cases h
    · cases h
  case h_9 =>
    split at h
    · rename_i h1
      cases h
      exact mm_putf_mono h1
    · cases h
  case h_12 =>
    split at h
    · rename_i h1
      cases h
      exact mm_new_mono h1
    · cases h
  case h_13 =>
    split at h
    · rename_i h1
      cases h
      exact mm_newa_mono h1
    · cases h
  case h_14 =>
    split at h
    · rename_i h1
      cases h
      exact mm_awr_mono h1
    · cases h
  case h_17 =>
    split at h
    · split at h
      · cases h
        exact mm_mono_thr _
      · cases h
    · cases h
  case h_18 =>
    split at h
    · rename_i h1
      split at h
      · cases h
        exact mm_copy_mono h1
      · cases h
    · cases h
  case h_21 =>
    split at h
    · rename_i h1
      split at h
      · cases h
        exact mm_clone_mono h1
      · cases h
    · cases h
  all_goals
    repeat' (first | cases h | split at h)
    all_goals exact mm_mono_rf _
theorem mm_go_mono {P : mm_P} {call : Nat → List Value → mm_H → Option mm_R} (hc : ∀ y A σ r, call y A σ = some r → mm_mono σ r.2) {code : mm_Code} : ∀ {n pc : Nat} {L : mm_L} {S : List Value} {σ : mm_H} {r : mm_R}, mm_go P call code n pc L S σ = some r → mm_mono σ r.2 := by
  intro n
  induction n with
  | zero => intro pc L S σ r h; cases h
  | succ n ih =>
    intro pc L S σ r h
    simp only [mm_go] at h
    split at h
    · split at h
      · rename_i h1
        have h2 := mm_step_mono hc h1
        exact mm_mono_tr h2 (ih h)
      · rename_i h1
        cases h
        exact mm_step_mono hc h1
      · cases h
    · cases h
theorem mm_run_mono {P : mm_P} {M : Nat → Option (mm_Code × Nat)} {N : Nat} : ∀ {d y : Nat} {A : List Value} {σ : mm_H} {r : mm_R}, mm_run P M N d y A σ = some r → mm_mono σ r.2 := by
  intro d
  induction d with
  | zero => intro y A σ r h; cases h
  | succ d ih =>
    intro y A σ r h
    simp only [mm_run] at h
    split at h
    · split at h
      · exact mm_go_mono (fun y A σ r h => ih h) h
      · cases h
    · cases h
