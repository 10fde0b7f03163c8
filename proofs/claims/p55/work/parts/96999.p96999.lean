theorem zP_okn {A : a_A} (hW : aW A) {l : List Nat} {n lvl o p q : Nat} {T : a_T} (hp : p ≤ l.length) (h : zP A l n lvl none o p = some (.inr (T, q))) : p ≤ q ∧ q ≤ l.length ∧ a_per (aV A) T ∧ p < q := by
  obtain ⟨h1, h2, h3, h4⟩ := zP_ok hW n lvl none o p hp (fun _ q => by cases q) T q h
  exact ⟨h1, h2, h3, h4 rfl⟩
section RM
variable {scr : Nat × (Nat → Int32)} {t : List mg_S} {A : a_A} {l : List Nat} {n o p : Nat} {ts : List a_T} {r : zEr ⊕ (a_T × Nat)} {G : mg_G} {T : a_T}
end RM
