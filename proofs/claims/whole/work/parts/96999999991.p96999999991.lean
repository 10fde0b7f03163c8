/-! THE START: the constructors' own runs -/
def gz_0 : mg_G := (fun _ _ => 0, fun _ _ => 0, fun _ _ => 0, fun _ _ => none, fun _ _ => .null)
def gz_e1 : Option mm_N := gz_e mc_law 4 20 0 (mm_entry [.ref 1000002] 9) [] 0 [] (true, 0, 0)
def gz_T1 : List mm_C := gz_T 0 gz_e1
def gz_e2 : Option mm_N := gz_e mc_103 81 400 0 (mm_entry [.ref 0] 1) [] 0 gz_T1 (true, 1, 8)
def gz_T2 : List mm_C := gz_T 0 gz_e2
def gz_e3 : Option mm_N := gz_e mc_law 12 20 7 [some (.ref 1000002), none, none, none, none, none, none, none, none] [.ref 0] 148 [] (true, 148, 23825)
def gz_T3 : List mm_C := gz_T 148 gz_e3
def gz_e4 : Option mm_N := gz_e mc_175 283 400 0 (mm_entry [.ref 148] 3) [] 148 gz_T3 (true, 149, 23859)
def gz_T4 : List mm_C := gz_T 148 gz_e4
def gz_e5 : Option mm_N := gz_e mc_law 28 30 15 [some (.ref 1000002), some (.ref 0), none, none, none, none, none, none, none] [.ref 148] 169 [] (true, 169, 45207)
def gz_T5 : List mm_C := gz_T 169 gz_e5
theorem gz_1 : gz_s 4 [some (.ref 1000002), none, none, none, none, none, none, none, none] [.ref 0, .ref 0] (true, 1, 8) gz_e1 = true := by decide +kernel
theorem gz_1i : mm_isr fw_P (gz_d 0 ++ gz_T1, true, 1, 8) 9 [.ref 0] = true := by decide +kernel
theorem gz_2 : gz_s 81 [some (.ref 0)] [] (true, 148, 23825) gz_e2 = true := by decide +kernel
theorem gz_2k : gz_k shC gz_T2 = true := by decide +kernel
theorem gz_3 : gz_s 12 [some (.ref 1000002), some (.ref 0), none, none, none, none, none, none, none] [.ref 148, .ref 148] (true, 149, 23859) gz_e3 = true := by decide +kernel
theorem gz_3i : mm_isr fw_P (gz_d 148 ++ gz_T3, true, 149, 23859) 10 [.ref 148] = true := by decide +kernel
theorem gz_4 : gz_s 283 [some (.ref 148), none, none] [] (true, 169, 45207) gz_e4 = true := by decide +kernel
theorem gz_4k : gz_k shM gz_T4 = true := by decide +kernel
theorem gz_5 : gz_s 28 [some (.ref 1000002), some (.ref 0), some (.ref 148), some (.ref 169), some (.ref 170), some (.int (Int32.ofNat 0)), none, none, none] [] (true, 171, 45209) gz_e5 = true := by decide +kernel
theorem gz_5k : gz_k shO gz_T5 = true := by decide +kernel
theorem gz_2c : (gz_F gz_T2[1]? 1 = .int (Int32.ofNat 0) ∧ gz_F gz_T2[38]? 1 = .int 0 ∧ gz_F gz_T2[38]? 2 = .int 0) ∧ (∀ i, i < 8 → gz_R gz_T2[39]? i = some (42 + 8 * i)) ∧ (∀ s, s < 2 → gz_R gz_T2[40]? s = some (42 + 8 * (8 + s))) ∧ (∀ s, s < 2 → gz_I gz_T2[41]? s = 0) ∧ gz_F gz_T2[146]? 1 = .int 0 ∧ gz_F gz_T2[0]? 7 = .int 0 := by decide +kernel
theorem gz_4c : (∀ v, v < 6 → gz_J gz_T4[6]? v = a_m v) ∧ gz_F gz_T4[0]? 3 = .int 0 ∧ (∀ s, s < 2 → gz_I gz_T4[3]? s = 0) ∧ gz_F gz_T4[0]? 9 = .int 0 := by decide +kernel
theorem gz_tY : (match tY (k_str 0) with
  | .inl _ => false
  | .inr _ => true) = true := by decide +kernel
theorem gz_x : ∃ x, tY (k_str 0) = .inr x := by
  have h := gz_tY
  split at h
  · cases h
  · rename_i x e
    exact ⟨x, e⟩
