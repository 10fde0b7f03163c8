/-! REFERENCE: tables, counts -/
def a_wd (T : a_T) (w : Nat) : Int64 := match w with
  | 0 => T.1
  | 1 => T.2.1
  | 2 => T.2.2.1
  | _ => T.2.2.2
/-- a table's value for an assignment -/
def a_at (T : a_T) (k : Nat) : Bool := (a_wd T (k / 64)).toBitVec.getLsbD (k % 64)
def a_atI (T : a_T) (k : Nat) : Int32 := if a_at T k then 1 else 0
section RM
variable {scr : Nat × (Nat → Int32)} {t : List mg_S}
theorem r178n (d : Nat) {nv : Nat} {G : mg_G} (hn : G.1 149 0 = Int32.ofNat nv) : mg_m (mg_KM scr t) (d + 1) 178 [.ref 148] G (mg_v (.int (Int32.ofNat nv)) G) := by
  rw [← hn]
  exact r178 d G
theorem r179n (d : Nat) {nf : Nat} {G : mg_G} (hn : G.1 149 1 = Int32.ofNat nf) : mg_m (mg_KM scr t) (d + 1) 179 [.ref 148] G (mg_v (.int (Int32.ofNat nf)) G) := by
  rw [← hn]
  exact r179 d G
theorem r183n (d : Nat) {nv : Nat} {G : mg_G} (hn : G.1 149 0 = Int32.ofNat nv) (h8 : nv < 9) : mg_m (mg_KM scr t) (d + 2) 183 [.ref 148] G (mg_v (.int (Int32.ofNat (2 ^ nv))) G) := by
  rw [← mg_shl nv h8, ← hn]
  exact r183 d G
theorem a_tb_wd (G : mg_G) (f : Nat) : ∀ w, w < 4 → G.2.1 150 (4 * f + w) = a_wd (a_tb G f) w
  | 0, _ => rfl
  | 1, _ => rfl
  | 2, _ => rfl
  | 3, _ => rfl
theorem r192 (d f k : Nat) (hf : f < 144) (hk : k < 256) (G : mg_G) : mg_m (mg_KM scr t) (d + 2) 192 [.ref 148, .int (Int32.ofNat f), .int (Int32.ofNat k)] G (mg_v (.int (a_atI (a_tb G f) k)) G) := by
  refine mg_me [] 80 my_192 ms_192 (Nat.le_of_ble_eq_true rfl) ?_
  refine ⟨Or.inr ⟨_, rfl⟩, ?_⟩
  show mg_m _ _ _ [_, _, .int (Int32.ofNat k >>> ((Int8.ofInt 6).toInt32 &&& 31))] _ _
  rw [mg_div64 k hk]
  refine mg_cv (r189 d f (k / 64) (by omega) G) (by omega) ?_
  refine ⟨Or.inl rfl, ?_, rfl, rfl⟩
  show (Sum.inl (some (Value.int (((G.2.1 150 (4 * f + k / 64)).toUInt64 >>> ((Int32.ofNat k &&& (Int8.ofInt 63).toInt32).toInt64.toUInt64 &&& Int64.toUInt64 63)).toInt64 &&& Int64.ofNat 1).toInt32)) : Option Value ⊕ String) = _
  rw [mg_mod64 k hk, mg_bit _ _ (Nat.mod_lt _ (by decide)), a_tb_wd G f _ (by omega)]
  rfl
theorem r263_l (d f nv : Nat) (hf : f < 144) (G : mg_G) (hn : G.1 149 0 = Int32.ofNat nv) (h8 : nv < 9) : ∀ (j k : Nat), k + j = 2 ^ nv → mg_wp (mg_KM scr t) mc_263 (d + 2) 4 [some (.ref 148), some (.int (Int32.ofNat f)), some (.int (a_sum (a_atI (a_tb G f)) k)), some (.int (Int32.ofNat k))] [] G (mg_v (.int (a_sum (a_atI (a_tb G f)) (2 ^ nv))) G) := by
  have h256 : 2 ^ nv ≤ 256 := Nat.pow_le_pow_right (by decide) (show nv ≤ 8 by omega)
  intro j
  induction j with
  | zero =>
    intro k h
    refine mg_go [4] 40 4 ms_263 ?_
    refine ⟨Or.inr ⟨_, rfl⟩, mg_cv (r183n d hn h8) (by omega) ⟨fun _ => ?_, fun h2 => ?_⟩⟩
    · exact ⟨Or.inl rfl, by rw [show k = 2 ^ nv by omega], rfl, rfl⟩
    · have := (mg_ltN (by omega) (by omega)).mp h2
      omega
  | succ j ih =>
    intro k h
    refine mg_go [4] 40 4 ms_263 ?_
    refine ⟨Or.inr ⟨_, rfl⟩, mg_cv (r183n d hn h8) (by omega) ⟨fun h2 => ?_, fun h2 => ?_⟩⟩
    · have := (mg_leN (by omega) (by omega)).mp h2
      omega
    · refine ⟨Or.inr ⟨_, rfl⟩, mg_cv (r192 d f k hf (by omega) G) (by omega) ?_⟩
      have := ih (k + 1) (by omega)
      rw [← mg_inc k] at this
      exact this
theorem r263 (d f nv : Nat) (hf : f < 144) (G : mg_G) (hn : G.1 149 0 = Int32.ofNat nv) (h8 : nv < 9) : mg_m (mg_KM scr t) (d + 3) 263 [.ref 148, .int (Int32.ofNat f)] G (mg_v (.int (a_sum (a_atI (a_tb G f)) (2 ^ nv))) G) := by
  refine mg_me [4] 10 my_263 ms_263 (Nat.le_of_ble_eq_true rfl) ?_
  exact r263_l d f nv hf G hn h8 (2 ^ nv) 0 (by omega)
end RM
