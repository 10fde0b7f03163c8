theorem gz_fr (G : mg_G) (m : Nat) (T : List mm_C) : mg_fr (fun b => m ≤ b) G (gz_G G m T) := fun b hb => by
  have hb2 : b < m := by omega
  exact ⟨if_pos hb2, if_pos hb2, if_pos hb2, if_pos hb2, if_pos hb2⟩
theorem gz_gI (G : mg_G) (m : Nat) (T : List mm_C) (j k : Nat) : (gz_G G m T).1 (m + j) k = gz_I T[j]? k := by
  show (if m + j < m then G.1 (m + j) else gz_I T[m + j - m]?) k = _
  rw [if_neg (by omega), show m + j - m = j by omega]
theorem gz_gJ (G : mg_G) (m : Nat) (T : List mm_C) (j k : Nat) : (gz_G G m T).2.1 (m + j) k = gz_J T[j]? k := by
  show (if m + j < m then G.2.1 (m + j) else gz_J T[m + j - m]?) k = _
  rw [if_neg (by omega), show m + j - m = j by omega]
theorem gz_gR (G : mg_G) (m : Nat) (T : List mm_C) (j k : Nat) : (gz_G G m T).2.2.2.1 (m + j) k = gz_R T[j]? k := by
  show (if m + j < m then G.2.2.2.1 (m + j) else gz_R T[m + j - m]?) k = _
  rw [if_neg (by omega), show m + j - m = j by omega]
theorem gz_gF (G : mg_G) (m : Nat) (T : List mm_C) (j k : Nat) : (gz_G G m T).2.2.2.2 (m + j) k = gz_F T[j]? k := by
  show (if m + j < m then G.2.2.2.2 (m + j) else gz_F T[m + j - m]?) k = _
  rw [if_neg (by omega), show m + j - m = j by omega]
theorem mg_thr_le (k : Nat) (w : Bool × Nat × Nat) : (mg_thr k w).2.1 = w.2.1 + k ∧ (mg_thr k w).2.2 = w.2.2 + 6 * k := by
  cases k with
  | zero => exact ⟨rfl, rfl⟩
  | succ k => exact ⟨rfl, rfl⟩
section LW
variable {L : Nat} {xs : Nat → Int32}
end LW
