theorem tD_s (l : List Nat) (n : Nat) (N : Nat → List Nat) (v p : Nat) : tD l (n + 1) N v p = if k_nm l p = true then (if t_nw (vA N v) l p = true then (if v = 8 then .inl (5, k_S l p) else if k_is l (k_E l p) 59 = true then .inr (vA (mg_u N v (k_W l p)) (v + 1), k_E l (k_E l p)) else tD l n (mg_u N v (k_W l p)) (v + 1) (k_E l p)) else .inl (4, k_S l p)) else .inl (1, k_S l p) := rfl
section RM
variable {scr : Nat × (Nat → Int32)} {t : List mg_S} {G G0 : mg_G} {A : a_A} {l : List Nat} {p : Nat}
end RM
