section RM
variable {scr : Nat × (Nat → Int32)} {t : List mg_S} {G : mg_G} {A : a_A}
theorem mg_decm (k : Nat) : Int32.ofNat (k + 1) + Int32.ofInt (-1) = Int32.ofNat k := by rw [← mg_inc k, Int32.add_assoc, show Int32.ofInt 1 + Int32.ofInt (-1) = 0 from by decide, Int32.add_zero]
end RM
