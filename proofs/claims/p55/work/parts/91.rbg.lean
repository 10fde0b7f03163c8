theorem a_mx_c {f g : Nat → Int32} : ∀ n, (∀ j, j < n → f j = g j) → a_mx f n = a_mx g n
  | 0, _ => rfl
  | k + 1, h => by
    have ih := a_mx_c k (fun j hj => h j (by omega))
    have e : f (a_mx f k) = g (a_mx g k) := by
      rw [ih]
      by_cases hk : k = 0
      · subst hk
        exact h 0 (by decide)
      · have := a_mx_lt g k (by omega)
        exact h _ (by omega)
    unfold a_mx
    rw [e, h k (Nat.lt_succ_self k), ih]
theorem a_tst_c {f g : Nat → Int32} {n : Nat} (h : ∀ j, j < n → f j = g j) : ∀ k j, j < n → a_tst f n k j = a_tst g n k j
  | 0, j, hj => h j hj
  | k + 1, j, hj => by
    have ih := a_tst_c h k
    show mg_u (a_tst f n k) (a_mx (a_tst f n k) n) (-1) j = mg_u (a_tst g n k) (a_mx (a_tst g n k) n) (-1) j
    rw [a_mx_c n ih]
    unfold mg_u
    split
    · rfl
    · exact ih j hj
theorem a_sq_c {f g : Nat → Int32} {n : Nat} (h : ∀ j, j < n → f j = g j) (k : Nat) : a_sq f n k = a_sq g n k := a_mx_c n (a_tst_c h k)
theorem a_sfs_c {A : a_A} {f g : Nat → Int32} (h : ∀ j, j < aV A → f j = g j) : ∀ k, a_sfs A f k = a_sfs A g k
  | 0 => rfl
  | k + 1 => by
    show a_sft (a_sfs A f k) (a_sq f (aV A) k) = a_sft (a_sfs A g k) (a_sq g (aV A) k)
    rw [a_sfs_c h k, a_sq_c h k]
theorem mg_u2_same {α : Type} (f : Nat → Nat → α) (a k : Nat) (x : α) : mg_u2 f a k x a = mg_u (f a) k x := mg_u_eq _ _ _
/-- the state without function f -/
def remF (A : a_A) (f : Nat) : a_A := (aV A, aF A - 1, aD A, aC A, aP A, aVN A, fun g => if f ≤ g then aFN A (g + 1) else aFN A g, fun g => if f ≤ g then aT A (g + 1) else aT A g)
theorem remF_W {A : a_A} (h : aW A) (f : Nat) : aW (remF A f) := by
  obtain ⟨h1, h2, h3, h4, h5, h6, h7⟩ := h
  refine ⟨h1, h2, by show aF A - 1 ≤ 12; omega, fun g hg => ?_, h5, fun g hg => ?_, h7⟩
  · have hg : g < aF A - 1 := hg
    show a_per (aV A) (if f ≤ g then aT A (g + 1) else aT A g)
    split
    · exact h4 _ (by omega)
    · exact h4 _ (by omega)
  · have hg : g < aF A - 1 := hg
    show a_nm7 (if f ≤ g then aFN A (g + 1) else aFN A g)
    split
    · exact h6 _ (by omega)
    · exact h6 _ (by omega)
/-- things from p on, below m, become those s behind them -/
def a_dn {α : Type} (f : Nat → α) (p m s : Nat) : Nat → α := fun j => if p ≤ j ∧ j < m then f (j + s) else f j
theorem a_dn_0 {α : Type} (f : Nat → α) (p s : Nat) : a_dn f p p s = f := by
  funext j
  unfold a_dn
  rw [if_neg (by omega)]
theorem a_dn_s {α : Type} (f : Nat → α) {p m s : Nat} (h : p ≤ m) : mg_u (a_dn f p m s) m (f (m + s)) = a_dn f p (m + 1) s := by
  funext j
  by_cases e : j = m
  · subst e
    rw [mg_u_eq]
    unfold a_dn
    rw [if_pos (by omega)]
  · rw [mg_u_ne _ _ e]
    unfold a_dn
    by_cases h2 : p ≤ j ∧ j < m
    · rw [if_pos h2, if_pos (by omega)]
    · rw [if_neg h2, if_neg (by omega)]
theorem a_dn_at {α : Type} (f : Nat → α) {p m s : Nat} (hs : 0 < s) : a_dn f p m s (m + s) = f (m + s) := by
  unfold a_dn
  rw [if_neg (by omega)]
section RM
variable {scr : Nat × (Nat → Int32)} {t : List mg_S} {G : mg_G} {A : a_A} {S : a_S}
end RM
