/-! THE PARSER OF FORMULAS (pure): an error (code, place), or a table and the place behind it -/
abbrev zEr : Type := Int32 × Nat
abbrev zRs : Type := Option (zEr ⊕ (a_T × Nat))
def zB (r : zRs) (f : a_T → Nat → zRs) : zRs := match r with
  | none => none
  | some (.inl e) => some (.inl e)
  | some (.inr (T, q)) => f T q
def zErr (c : Int32) (l : List Nat) (p : Nat) : zRs := some (.inl (c, k_S l p))
def k_sg (lvl : Nat) : Nat := [61, 62, 124, 94, 38].getD lvl 0
def k_op (lvl : Nat) : Int32 := [4, 3, 1, 2, 0].getD lvl 0
def k_v (A : a_A) (l : List Nat) (p : Nat) : Option Nat := k_at (aVN A) (aV A) l p
def k_f (A : a_A) (l : List Nat) (p : Nat) : Option Nat := k_at (aFN A) (aF A) l p
def z_cst (b : Bool) : a_T := if b then a_one else a_zero
theorem zB_s {r : zRs} {f : a_T → Nat → zRs} {x : zEr ⊕ (a_T × Nat)} (h : zB r f = some x) : (∃ e, r = some (.inl e) ∧ x = .inl e) ∨ ∃ T q, r = some (.inr (T, q)) ∧ f T q = some x := by
  match r, h with
  | some (.inl e), h => exact Or.inl ⟨e, rfl, (Option.some.inj h).symm⟩
  | some (.inr (T, q)), h => exact Or.inr ⟨T, q, rfl, h⟩
theorem k_is_E {l : List Nat} {p c : Nat} (h : k_is l p c = true) : k_S l p < k_E l p := k_E_lt (fun q => by
  have := (of_decide_eq_true h).1
  rw [q] at this
  cases this)
theorem k_wd_E {l : List Nat} {p : Nat} {w : List Nat} (h : k_wd l p w = true) : k_S l p < k_E l p := k_E_lt (fun q => by
  have := (of_decide_eq_true h).1
  rw [q] at this
  cases this)
theorem k_nm_1 {l : List Nat} {p : Nat} (h : k_nm l p = true) : k_K l p = 1 := by
  unfold k_nm at h
  rw [Bool.and_eq_true, decide_eq_true_eq] at h
  exact h.1
