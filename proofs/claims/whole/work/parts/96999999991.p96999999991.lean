/-! THE START: the constructors' own runs -/
def gz_0 : mg_G := (fun _ _ => 0, fun _ _ => 0, fun _ _ => 0, fun _ _ => none, fun _ _ => .null)
def gz_o9 : List mm_C := [.inr (9, (mm_dfl 9).getD [])]
def gz_o10 : List mm_C := [.inr (10, (mm_dfl 10).getD [])]
theorem gz_law0 : (gz_s 4 [some (.ref 1000002), none, none, none, none, none, none, none, none] [.ref 0, .ref 0] (true, 1, 8) (gz_e mc_law 4 20 0 (mm_entry [.ref 1000002] 9) [] 0 [] (true, 0, 0)) && gz_k [.inr (9, [none, none, none, none, none, none, none, none])] (gz_T 0 (gz_e mc_law 4 20 0 (mm_entry [.ref 1000002] 9) [] 0 [] (true, 0, 0)))) = true := by decide +kernel
theorem gz_103 : (gz_s 81 [some (.ref 0)] [] (true, 148, 23825) (gz_e mc_103 81 400 0 (mm_entry [.ref 0] 1) [] 0 gz_o9 (true, 1, 8)) && gz_k shC (gz_T 0 (gz_e mc_103 81 400 0 (mm_entry [.ref 0] 1) [] 0 gz_o9 (true, 1, 8)))) = true := by decide +kernel
theorem gz_175 : (gz_s 283 [some (.ref 148), none, none] [] (true, 169, 45207) (gz_e mc_175 283 400 0 (mm_entry [.ref 148] 3) [] 148 gz_o10 (true, 149, 23859)) && gz_k shM (gz_T 148 (gz_e mc_175 283 400 0 (mm_entry [.ref 148] 3) [] 148 gz_o10 (true, 149, 23859)))) = true := by decide +kernel
