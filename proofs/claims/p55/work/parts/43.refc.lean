theorem mg_u2_u {α : Type} (f : Nat → Nat → α) (a : Nat) (g : Nat → α) (k : Nat) (x : α) : mg_u2 (mg_u f a g) a k x = mg_u f a (mg_u g k x) := by
  funext b
  unfold mg_u2
  by_cases h : b = a
  · subst h
    rw [mg_u_eq, mg_u_eq, mg_u_eq]
  · rw [mg_u_ne _ _ h, mg_u_ne _ _ h, mg_u_ne _ _ h]
theorem mg_u_id {α : Type} (f : Nat → Nat → α) (a : Nat) : mg_u f a (f a) = f := by
  funext b
  by_cases h : b = a
  · subst h; rw [mg_u_eq]
  · rw [mg_u_ne _ _ h]
/-- what is left of a table with a value of a variable -/
def a_cof (m : Nat → Int64) (T : a_T) (v : Nat) (x : Int32) : a_T := (a_left m T (Int32.ofNat v) x 0, a_left m T (Int32.ofNat v) x 1, a_left m T (Int32.ofNat v) x 2, a_left m T (Int32.ofNat v) x 3)
def a_dep (m : Nat → Int64) (T : a_T) (v : Nat) : Bool := decide (a_cof m T v 0 ≠ a_cof m T v 1)
theorem a_eq4 {a b c d a' b' c' d' : Int64} : ((a, b, c, d) : a_T) = (a', b', c', d') ↔ a = a' ∧ b = b' ∧ c = c' ∧ d = d' := by
  simp only [Prod.mk.injEq]
section RM
variable {scr : Nat × (Nat → Int32)} {t : List mg_S}
end RM
