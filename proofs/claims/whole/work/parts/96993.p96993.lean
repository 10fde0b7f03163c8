/-! STRINGS that stand in the program: their length, their letters -/
def k_str (a : Nat) : List Nat := (((mm_STB[a]?).map (fun q => q.2.2.2)).getD []).map (fun x => x.toNatClampNeg)
section KC
variable {K : mg_K} {G : mg_G}
theorem j333 (d : Nat) : mg_m K (d + 1) 333 [.ref (2000000 + 28)] G (mg_v (.int 0) G) := by
  refine mg_me [] 20 my_333 ms_333 (Nat.le_of_ble_eq_true rfl) ?_
  repeat (first | refine ⟨_, mg_Fs rfl rfl, ?_⟩ | refine ⟨Or.inl rfl, ?_⟩ | refine ⟨Or.inr ⟨_, rfl⟩, ?_⟩ | refine ⟨fun _ => ?_, fun h => absurd h (by decide)⟩ | refine ⟨fun h => absurd h (by decide), fun _ => ?_⟩)
  exact ⟨rfl, rfl, rfl⟩
end KC
