/-! REFERENCE: copyBlock -/
theorem mg_186 (a k : Nat) : Int32.ofNat a * (Int16.ofInt 186).toInt32 + Int32.ofNat k = Int32.ofNat (186 * a + k) := by
  rw [Int32.ofNat_add, Nat.mul_comm, Int32.ofNat_mul]
  rfl
theorem mg_48 (a k : Nat) : Int32.ofNat a * (Int8.ofInt 48).toInt32 + Int32.ofNat k = Int32.ofNat (48 * a + k) := by
  rw [Int32.ofNat_add, Nat.mul_comm, Int32.ofNat_mul]
  rfl
/-- n things from p on copied to q on -/
def a_cp {α : Type} (f : Nat → α) (p q n : Nat) : Nat → α := fun i => if q ≤ i ∧ i < q + n then f (p + (i - q)) else f i
theorem a_cp_s {α : Type} (f : Nat → α) (p q n : Nat) (h : ¬ (q ≤ p + n ∧ p + n < q + n)) : mg_u (a_cp f p q n) (q + n) (a_cp f p q n (p + n)) = a_cp f p q (n + 1) := by
  funext i
  by_cases hi : i = q + n
  · subst hi
    rw [mg_u_eq]
    unfold a_cp
    rw [if_neg h, if_pos ⟨by omega, by omega⟩, show q + n - q = n by omega]
  · rw [mg_u_ne _ _ hi]
    unfold a_cp
    by_cases h2 : q ≤ i ∧ i < q + n
    · rw [if_pos h2, if_pos ⟨h2.1, by omega⟩]
    · rw [if_neg h2, if_neg (by omega)]
section RM
variable {scr : Nat × (Nat → Int32)} {t : List mg_S}
theorem r184_l1 (d a b : Nat) (ha : a < 12) (hb : b < 12) (G : mg_G) {Q : mg_Q} (k : mg_wp (mg_KM scr t) mc_184 d 39 [some (.ref 148), some (.int (Int32.ofNat a)), some (.int (Int32.ofNat b)), some (.int (Int32.ofNat 186))] [] (mg_u G.1 149 (a_cp (G.1 149) (186 * a) (186 * b) 186), G.2) Q) :
    ∀ (m j : Nat), j + m = 186 → mg_wp (mg_KM scr t) mc_184 d 2 [some (.ref 148), some (.int (Int32.ofNat a)), some (.int (Int32.ofNat b)), some (.int (Int32.ofNat j))] [] (mg_u G.1 149 (a_cp (G.1 149) (186 * a) (186 * b) j), G.2) Q := by
  intro m
  induction m with
  | zero =>
    intro j h
    have ej : j = 186 := by omega
    subst ej
    refine mg_go [2, 39] 40 2 ms_184 ?_
    exact ⟨fun _ => k, fun h => absurd h (Int32.not_lt.mpr (Int32.le_refl _))⟩
  | succ m ih =>
    intro j h
    have hnx := ih (j + 1) (by omega)
    rw [← mg_inc j, ← a_cp_s (G.1 149) (186 * a) (186 * b) j (by omega), ← mg_u2_u] at hnx
    refine mg_go [2, 39] 40 2 ms_184 ?_
    refine ⟨fun h2 => ?_, fun _ => ?_⟩
    · have h2 : Int32.ofNat 186 ≤ Int32.ofNat j := h2
      have := (mg_leN (by omega) (by omega)).mp h2
      omega
    refine ⟨_, mg_Fs rfl rfl, _, mg_Fs rfl rfl, _, _, 186 * a + j, mg_Ai rfl (by decide), mg_ixE (mg_186 a j) (by omega), by omega, ?_⟩
    refine ⟨2232, 186 * b + j, rfl, mg_ixE (mg_186 b j) (by omega), by omega, ?_⟩
    have e : mg_u G.1 149 (a_cp (G.1 149) (186 * a) (186 * b) j) 149 (186 * a + j) = a_cp (G.1 149) (186 * a) (186 * b) j (186 * a + j) := congrFun (mg_u_eq _ _ _) _
    rw [← e] at hnx
    exact hnx
theorem r184_l2 (d a b : Nat) (ha : a < 12) (hb : b < 12) (G : mg_G) {Q : mg_Q} (k : Q (.inl none) 0 (G.1, mg_u G.2.1 150 (a_cp (G.2.1 150) (48 * a) (48 * b) 48), G.2.2)) :
    ∀ (m j : Nat), j + m = 48 → mg_wp (mg_KM scr t) mc_184 d 41 [some (.ref 148), some (.int (Int32.ofNat a)), some (.int (Int32.ofNat b)), some (.int (Int32.ofNat j))] [] (G.1, mg_u G.2.1 150 (a_cp (G.2.1 150) (48 * a) (48 * b) j), G.2.2) Q := by
  intro m
  induction m with
  | zero =>
    intro j h
    have ej : j = 48 := by omega
    subst ej
    refine mg_go [41] 40 41 ms_184 ?_
    exact ⟨fun _ => k, fun h => absurd h (Int32.not_lt.mpr (Int32.le_refl _))⟩
  | succ m ih =>
    intro j h
    have hnx := ih (j + 1) (by omega)
    rw [← mg_inc j, ← a_cp_s (G.2.1 150) (48 * a) (48 * b) j (by omega), ← mg_u2_u] at hnx
    refine mg_go [41] 40 41 ms_184 ?_
    refine ⟨fun h2 => ?_, fun _ => ?_⟩
    · have h2 : Int32.ofNat 48 ≤ Int32.ofNat j := h2
      have := (mg_leN (by omega) (by omega)).mp h2
      omega
    refine ⟨_, mg_Fs rfl rfl, _, mg_Fs rfl rfl, _, _, 48 * a + j, mg_Al rfl (by decide), mg_ixE (mg_48 a j) (by omega), by omega, ?_⟩
    refine ⟨576, 48 * b + j, rfl, mg_ixE (mg_48 b j) (by omega), by omega, ?_⟩
    have e : mg_u G.2.1 150 (a_cp (G.2.1 150) (48 * a) (48 * b) j) 150 (48 * a + j) = a_cp (G.2.1 150) (48 * a) (48 * b) j (48 * a + j) := congrFun (mg_u_eq _ _ _) _
    rw [← e] at hnx
    exact hnx
theorem r184 (d a b : Nat) (ha : a < 12) (hb : b < 12) (G : mg_G) : mg_m (mg_KM scr t) (d + 1) 184 [.ref 148, .int (Int32.ofNat a), .int (Int32.ofNat b)] G (mg_n (mg_u G.1 149 (a_cp (G.1 149) (186 * a) (186 * b) 186), mg_u G.2.1 150 (a_cp (G.2.1 150) (48 * a) (48 * b) 48), G.2.2)) := by
  have z1 : mg_u G.1 149 (a_cp (G.1 149) (186 * a) (186 * b) 0) = G.1 := by
    have e : a_cp (G.1 149) (186 * a) (186 * b) 0 = G.1 149 := by
      funext i
      unfold a_cp
      rw [if_neg (by omega)]
    rw [e, mg_u_id]
  have z2 : mg_u G.2.1 150 (a_cp (G.2.1 150) (48 * a) (48 * b) 0) = G.2.1 := by
    have e : a_cp (G.2.1 150) (48 * a) (48 * b) 0 = G.2.1 150 := by
      funext i
      unfold a_cp
      rw [if_neg (by omega)]
    rw [e, mg_u_id]
  refine mg_me [2] 10 my_184 ms_184 (Nat.le_of_ble_eq_true rfl) ?_
  have key := r184_l1 (scr := scr) (t := t) d a b ha hb G (Q := mg_n (mg_u G.1 149 (a_cp (G.1 149) (186 * a) (186 * b) 186), mg_u G.2.1 150 (a_cp (G.2.1 150) (48 * a) (48 * b) 48), G.2.2)) ?_ 186 0 (by omega)
  · rw [z1] at key
    exact key
  · have k2 := r184_l2 (scr := scr) (t := t) d a b ha hb (mg_u G.1 149 (a_cp (G.1 149) (186 * a) (186 * b) 186), G.2) (Q := mg_n (mg_u G.1 149 (a_cp (G.1 149) (186 * a) (186 * b) 186), mg_u G.2.1 150 (a_cp (G.2.1 150) (48 * a) (48 * b) 48), G.2.2)) ⟨rfl, rfl, rfl⟩ 48 0 (by omega)
    rw [z2] at k2
    refine mg_go [41] 10 39 ms_184 ?_
    exact k2
end RM
