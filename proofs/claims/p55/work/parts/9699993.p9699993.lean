/-- a word is one word: at most one of them stands -/
theorem k_wd_1 {l : List Nat} {p : Nat} {v w : List Nat} (h : k_wd l p v = true) (h2 : k_wd l p w = true) : v = w := (of_decide_eq_true h).2.symm.trans (of_decide_eq_true h2).2
