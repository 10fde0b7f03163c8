section RM
variable {scr : Nat × (Nat → Int32)} {t : List mg_S}
theorem r177 {K : mg_K} (d : Nat) (v lo hi : Int32) (G : mg_G) : mg_m K (d + 1) 177 [.int v, .int lo, .int hi] G (mg_v (.int (if lo ≤ v ∧ v ≤ hi then 1 else 0)) G) := by
  refine mg_me [] 20 my_177 ms_177 (Nat.le_of_ble_eq_true rfl) ?_
  refine ⟨fun h => ?_, fun h => ⟨fun h2 => ?_, fun h2 => ?_⟩⟩
  · refine ⟨Or.inr rfl, ?_, rfl, rfl⟩
    rw [if_neg (fun h3 => Int32.not_lt.mpr h3.1 h)]
    rfl
  · refine ⟨Or.inr rfl, ?_, rfl, rfl⟩
    rw [if_neg (fun h3 => Int32.not_lt.mpr h3.2 h2)]
    rfl
  · refine ⟨Or.inr rfl, ?_, rfl, rfl⟩
    rw [if_pos ⟨Int32.not_lt.mp h, Int32.not_lt.mp h2⟩]
    rfl
theorem r178 (d : Nat) (G : mg_G) : mg_m (mg_KM scr t) (d + 1) 178 [.ref 148] G (mg_v (.int (G.1 149 0)) G) := by
  refine mg_me [] 20 my_178 ms_178 (Nat.le_of_ble_eq_true rfl) ?_
  refine ⟨_, mg_Fs rfl rfl, ?_⟩
  refine ⟨_, _, 0, mg_Ai rfl (by decide), ⟨by decide, by decide⟩, by decide, ?_⟩
  exact ⟨Or.inl rfl, rfl, rfl, rfl⟩
theorem r180 (d : Nat) (v : Int32) (G : mg_G) : mg_m (mg_KM scr t) (d + 2) 180 [.ref 148, .int v] G (mg_v (.int (if 0 ≤ v ∧ v ≤ G.1 149 0 - 1 then 1 else 0)) G) := by
  refine mg_me [] 20 my_180 ms_180 (Nat.le_of_ble_eq_true rfl) ?_
  refine ⟨Or.inr ⟨_, rfl⟩, ?_⟩
  refine mg_cv (r178 d G) (by omega) ?_
  refine ⟨Or.inl rfl, ?_⟩
  refine mg_cv (r177 d v 0 (G.1 149 0 - 1) G) (by omega) ?_
  refine ⟨Or.inr (mg_bnar _ ?_), rfl, rfl, rfl⟩
  split
  · exact Or.inr rfl
  · exact Or.inl rfl
end RM
