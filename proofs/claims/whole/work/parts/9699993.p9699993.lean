/-! WHICH STATEMENT (pure) -/
theorem k_sm_kd (l : List Nat) (p : Nat) : k_sm l p = (k_kd l p).isSome := by
  unfold k_kd
  rcases a_ff_is (fun i => k_wd l p (k_str (29 + i))) 8 with ⟨k, hk, e, h, -⟩ | ⟨e, h⟩
  · rw [e]
    unfold k_sm k_df
    rcases (show k = 0 ∨ k = 1 ∨ k = 2 ∨ k = 3 ∨ k = 4 ∨ k = 5 ∨ k = 6 ∨ k = 7 by omega) with rfl | rfl | rfl | rfl | rfl | rfl | rfl | rfl <;> simp_all
  · rw [e]
    have h0 := h 0 (by decide)
    have h1 := h 1 (by decide)
    have h2 := h 2 (by decide)
    have h3 := h 3 (by decide)
    have h4 := h 4 (by decide)
    have h5 := h 5 (by decide)
    have h6 := h 6 (by decide)
    have h7 := h 7 (by decide)
    unfold k_sm k_df
    simp_all
/-- a word is one word: at most one of them stands -/
theorem k_wd_1 {l : List Nat} {p : Nat} {v w : List Nat} (h : k_wd l p v = true) (h2 : k_wd l p w = true) : v = w := (of_decide_eq_true h).2.symm.trans (of_decide_eq_true h2).2
