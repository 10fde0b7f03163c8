theorem mg_sI_at (G : mg_G) (a k : Nat) (x : Int32) (b j : Nat) : (mg_sI G a k x).1 b j = if b = a ∧ j = k then x else G.1 b j := mg_u2_at G.1 a k x b j
theorem mg_sI_eq (G : mg_G) (a k : Nat) (x : Int32) : (mg_sI G a k x).1 a k = x := by rw [mg_sI_at, if_pos ⟨rfl, rfl⟩]
theorem mg_sI_ne (G : mg_G) (a k : Nat) (x : Int32) {j : Nat} (h : j ≠ k) : (mg_sI G a k x).1 a j = G.1 a j := by rw [mg_sI_at, if_neg (fun q => h q.2)]
section RM
variable {scr : Nat × (Nat → Int32)} {t : List mg_S}
end RM
