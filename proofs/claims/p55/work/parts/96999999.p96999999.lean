/-- the state with v variables of these names, no function -/
def vA (N : Nat → List Nat) (v : Nat) : a_A := (v, 0, fun j => j, fun _ => 0, fun _ => Int32.ofNat 50, N, fun _ => [], fun _ => a_zero)
theorem vA_W {N : Nat → List Nat} {v : Nat} (h1 : 1 ≤ v) (h8 : v ≤ 8) (hN : ∀ i, i < v → a_nm7 (N i) ∧ N i ≠ []) : aW (vA N v) :=
  ⟨h1, ⟨fun j hj => hj, fun w hw => ⟨w, hw, rfl⟩, fun i j _ _ e => e, h8⟩, Nat.zero_le _, fun f hf => absurd hf (Nat.not_lt_zero f), hN, fun f hf => absurd hf (Nat.not_lt_zero f), fun _ _ => ⟨50, by decide, rfl⟩⟩
def tD (l : List Nat) : Nat → (Nat → List Nat) → Nat → Nat → sR
  | 0, _, _, _ => .inl (0, 0)
  | n + 1, N, v, p => if k_nm l p = true then (if t_nw (vA N v) l p = true then (if v = 8 then .inl (5, k_S l p) else if k_is l (k_E l p) 59 = true then .inr (vA (mg_u N v (k_W l p)) (v + 1), k_E l (k_E l p)) else tD l n (mg_u N v (k_W l p)) (v + 1) (k_E l p)) else .inl (4, k_S l p)) else .inl (1, k_S l p)
/-- what follows a declaration -/
def tX (l : List Nat) (r : sR) : zEr ⊕ (a_A × Nat) := match r with
  | .inl e => .inl e
  | .inr x => tL false l 601 x.1 0 x.2
def tY (l : List Nat) : zEr ⊕ (a_A × Nat) := if k_wd l 0 (k_str 28) = true then tX l (tD l 10 (fun _ => []) 0 (k_E l 0)) else .inl (1, k_S l 0)
/-- names that are there stay -/
theorem mg_u_N {N : Nat → List Nat} {v : Nat} {w : List Nat} (hN : ∀ i, i < v → a_nm7 (N i) ∧ N i ≠ []) (hw : a_nm7 w ∧ w ≠ []) : ∀ i, i < v + 1 → a_nm7 (mg_u N v w i) ∧ mg_u N v w i ≠ [] := fun i hi => by
  by_cases e : i = v
  · subst e
    rw [mg_u_eq]
    exact hw
  · rw [mg_u_ne _ _ e]
    exact hN i (by omega)
section RM
variable {scr : Nat × (Nat → Int32)} {t : List mg_S} {G G0 : mg_G} {A : a_A} {l : List Nat} {p : Nat}
/-- block 0 while variables are declared -/
def uV (G : mg_G) (N : Nat → List Nat) (v : Nat) : Prop := v ≤ 8 ∧ G.1 149 0 = Int32.ofNat v ∧ G.1 149 1 = Int32.ofNat 0 ∧ (∀ j, j < v → G.1 149 (2 + j) = Int32.ofNat j) ∧ (∀ j, j < 8 → G.1 149 (10 + j) = 0) ∧ (∀ j, j < v → G.1 149 (18 + j) = Int32.ofNat 50) ∧ (∀ j, j < v → rNm G (26 + 8 * j) (N j)) ∧ ∀ j, j < v → a_nm7 (N j) ∧ N j ≠ []
theorem uV.I {N : Nat → List Nat} {v : Nat} (h : uV G N v) (hm : ∀ v, v < 6 → G.2.1 154 v = a_m v) (h1 : 1 ≤ v) : rI G (vA N v) := by
  obtain ⟨a1, a2, a3, a4, a5, a6, a7, a8⟩ := h
  exact ⟨hm, bA0 a2 a3 a4 (fun j hj => by have hj : j < v := hj; exact a5 j (by omega)) a6 a7 (fun f hf => absurd hf (Nat.not_lt_zero f)) (fun f hf => absurd hf (Nat.not_lt_zero f)), vA_W h1 a1 a8⟩
theorem uV.c {G' : mg_G} {N : Nat → List Nat} {v : Nat} (h : uV G N v) (e : G'.1 149 = G.1 149) : uV G' N v := by
  unfold uV rNm at h ⊢
  rw [e]
  exact h
end RM
