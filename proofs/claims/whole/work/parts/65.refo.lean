/-! REFERENCE: testsOf -/
section RM
variable {scr : Nat × (Nat → Int32)} {t : List mg_S}
theorem r257_l (d n : Nat) (hn9 : n ≤ 998) (x : Int32) (G : mg_G) (hn : G.2.2.2.2 148 16 = .int (Int32.ofNat (n + 2))) : ∀ (m k : Nat), k + m = n → mg_wp (mg_KM scr t) mc_257 d 4 [some (.ref 148), some (.int x), some (.int (a_sum (fun i => if G.1 156 (i + 2) = x then 1 else 0) k)), some (.int (Int32.ofNat (k + 2)))] [] G (mg_v (.int (a_sum (fun i => if G.1 156 (i + 2) = x then 1 else 0) n)) G) := by
  intro m
  induction m with
  | zero =>
    intro k h
    have ek : k = n := by omega
    subst ek
    refine mg_go [4] 60 4 ms_257 ?_
    refine ⟨_, mg_Fe hn rfl rfl, fun _ => ?_, fun h2 => absurd h2 (Int32.not_lt.mpr (Int32.le_refl _))⟩
    exact ⟨Or.inl rfl, rfl, rfl, rfl⟩
  | succ m ih =>
    intro k h
    have hnx := ih (k + 1) (by omega)
    rw [show k + 1 + 2 = k + 2 + 1 by omega, ← mg_inc (k + 2)] at hnx
    have es : a_sum (fun i => if G.1 156 (i + 2) = x then (1 : Int32) else 0) (k + 1) = a_sum (fun i => if G.1 156 (i + 2) = x then 1 else 0) k + (if G.1 156 (k + 2) = x then 1 else 0) := rfl
    rw [es] at hnx
    refine mg_go [4] 60 4 ms_257 ?_
    refine ⟨_, mg_Fe hn rfl rfl, fun h2 => ?_, fun _ => ?_⟩
    · have := (mg_leN (by omega) (by omega)).mp h2
      omega
    refine ⟨_, mg_Fs rfl rfl, _, _, k + 2, mg_Ai rfl (by decide), mg_ixN (by omega), by omega, ?_⟩
    refine ⟨fun hx => ?_, fun hx => ?_⟩
    · rw [if_neg hx] at hnx
      exact hnx
    · rw [if_pos hx] at hnx
      exact hnx
theorem r257 (d n : Nat) (hn9 : n ≤ 998) (x : Int32) (G : mg_G) (hn : G.2.2.2.2 148 16 = .int (Int32.ofNat (n + 2))) : mg_m (mg_KM scr t) (d + 1) 257 [.ref 148, .int x] G (mg_v (.int (a_sum (fun i => if G.1 156 (i + 2) = x then 1 else 0) n)) G) := by
  refine mg_me [4] 10 my_257 ms_257 (Nat.le_of_ble_eq_true rfl) ?_
  exact r257_l d n hn9 x G hn n 0 (by omega)
end RM
