theorem tL_0 {sc : Bool} {l : List Nat} {n : Nat} {A : a_A} {many p : Nat} (h : k_K l p = 0) : tL sc l (n + 1) A many p = .inr (A, many) := by
  show (if k_K l p = 0 then _ else _) = _
  rw [if_pos h]
theorem tL_s {sc : Bool} {l : List Nat} {n : Nat} {A : a_A} {many p : Nat} (h : k_K l p ≠ 0) : tL sc l (n + 1) A many p = (match tO sc A l many p with
  | .inl e => .inl e
  | .inr x => tL sc l n x.1 (many + 1) x.2) := by
  show (if k_K l p = 0 then _ else _) = _
  rw [if_neg h]
  cases tO sc A l many p <;> rfl
theorem tO_ok {sc : Bool} {A : a_A} (hW : aW A) {l : List Nat} (hl : l.length ≤ 600) {many p : Nat} (hp : p ≤ l.length) {A' : a_A} {q : Nat} (h : tO sc A l many p = .inr (A', q)) : aW A' ∧ p < q ∧ q ≤ l.length ∧ (sc = true → many ≠ 30) := by
  unfold tO at h
  split at h
  · cases h
  · rename_i k hk
    split at h
    · cases h
    split at h
    · cases h
    rename_i h30
    unfold tS at h
    split at h
    · cases h
    · rename_i x hx
      obtain ⟨m1, m2, m3⟩ := tC_ok (A' := x.1) (q := x.2) hW hl hp hk hx
      split at h
      · cases h
        have a1 := k_S_ge l x.2
        have a2 := k_E_ge l x.2
        exact ⟨m1, by omega, k_E_le m3, fun z w => h30 ⟨z, w⟩⟩
      · cases h
theorem k_K0 {l : List Nat} {p : Nat} (hp : p ≤ l.length) (h : k_K l p ≠ 0) : p < l.length := by
  have h1 := k_E_lt h
  have h2 := k_S_ge l p
  have h3 := k_E_le hp
  omega
section RM
variable {scr : Nat × (Nat → Int32)} {t : List mg_S} {G G0 : mg_G} {A : a_A} {l : List Nat} {p : Nat}
end RM
