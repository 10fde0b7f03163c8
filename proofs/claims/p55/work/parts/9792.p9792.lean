/-! THE START: the class's constructor -/
def gz_0 : mg_G := (fun _ _ => 0, fun _ _ => 0, fun _ _ => 0, fun _ _ => none, fun _ _ => .null)
def gz_e1 : Option mm_N := gz_e mc_law 4 20 0 (mm_entry [.ref 1000002] 8) [] 0 [] (true, 0, 0)
def gz_T1 : List mm_C := gz_T 0 gz_e1
def gz_e2 : Option mm_N := gz_e mc_103 81 400 0 (mm_entry [.ref 0] 1) [] 0 gz_T1 (true, 1, 8)
def gz_T2 : List mm_C := gz_T 0 gz_e2
theorem gz_1 : gz_s 4 [some (.ref 1000002), none, none, none, none, none, none, none] [.ref 0, .ref 0] (true, 1, 8) gz_e1 = true := by decide +kernel
theorem gz_1i : mm_isr fw_P (gz_d 0 ++ gz_T1, true, 1, 8) 9 [.ref 0] = true := by decide +kernel
theorem gz_2 : gz_s 81 [some (.ref 0)] [] (true, 148, 23825) gz_e2 = true := by decide +kernel
theorem gz_2k : gz_k shC gz_T2 = true := by decide +kernel
theorem gz_2c : (gz_F gz_T2[1]? 1 = .int (Int32.ofNat 0) ∧ gz_F gz_T2[38]? 1 = .int 0 ∧ gz_F gz_T2[38]? 2 = .int 0) ∧ (∀ i, i < 8 → gz_R gz_T2[39]? i = some (42 + 8 * i)) ∧ (∀ s, s < 2 → gz_R gz_T2[40]? s = some (42 + 8 * (8 + s))) ∧ (∀ s, s < 2 → gz_I gz_T2[41]? s = 0) ∧ gz_F gz_T2[146]? 1 = .int 0 ∧ gz_F gz_T2[0]? 7 = .int 0 := by decide +kernel
theorem gz_tY : (match tY (k_str 0) with
  | .inl _ => false
  | .inr _ => true) = true := by decide +kernel
theorem gz_x : ∃ x, tY (k_str 0) = .inr x := by
  have h := gz_tY
  split at h
  · cases h
  · rename_i x e
    exact ⟨x, e⟩
theorem gz_c2 {T : List mm_C} (h : (gz_F T[1]? 1 = .int (Int32.ofNat 0) ∧ gz_F T[38]? 1 = .int 0 ∧ gz_F T[38]? 2 = .int 0) ∧ (∀ i, i < 8 → gz_R T[39]? i = some (42 + 8 * i)) ∧ (∀ s, s < 2 → gz_R T[40]? s = some (42 + 8 * (8 + s))) ∧ (∀ s, s < 2 → gz_I T[41]? s = 0) ∧ gz_F T[146]? 1 = .int 0 ∧ gz_F T[0]? 7 = .int 0) : cG0 (gz_G gz_0 0 T) := by
  obtain ⟨⟨h1, h2, h3⟩, h4, h5, h6, h7, h8⟩ := h
  exact ⟨⟨(gz_gF gz_0 0 T 1 1).trans h1, Nat.zero_le _, fun i c hi => by cases hi⟩, (gz_gF gz_0 0 T 38 1).trans h2, (gz_gF gz_0 0 T 38 2).trans h3, fun i hi => (gz_gR gz_0 0 T 39 i).trans (h4 i hi), fun s hs => (gz_gR gz_0 0 T 40 s).trans (h5 s hs), fun s hs => (gz_gI gz_0 0 T 41 s).trans (h6 s hs), (gz_gF gz_0 0 T 146 1).trans h7, (gz_gF gz_0 0 T 0 7).trans h8⟩
theorem gz_cG0 : cG0 (gz_G gz_0 0 gz_T2) := gz_c2 gz_2c
theorem gz_lC : shC.length = 148 := by decide +kernel
/-- a call that gives a value and leaves the memory -/
theorem ew_cv {K : mg_K} {G : mg_G} {c : mm_Code} {d pc len y b e1 e2 : Nat} {i : Instr} {L : mm_L} {S A rest : List Value} {w : Bool × Nat × Nat} {v : Value} {Z : mm_R → Prop} (hl : c.lookup pc = some (len, 15, y, b, e1, e2, i, [])) (ht : mm_take b S = some (A, rest)) (hi : e2 = 1 ∨ mg_isr K e1 A) (h : mg_m K d y A G (mg_v v G)) (hz : ew (mg_P K) c d (pc + 3) L (v :: rest) (mg_h K G w) Z) : ew (mg_P K) c d pc L S (mg_h K G w) Z := by
  obtain ⟨N, o, k, G', h1, rfl, rfl, rfl⟩ := h w
  obtain ⟨N2, n2, r2, h2, h3⟩ := hz
  refine ⟨max N N2, n2 + 1, r2, ?_, h3⟩
  have h4 := mm_run_fuel (Nat.le_max_left N N2) h1 (Nat.le_refl d)
  have hi2 : e2 = 1 ∨ mm_isr (mg_P K) (mg_h K G' w) e1 A = true := hi.imp id mg_isr_ok
  simp only [mm_go, hl, mm_step, ht, if_pos hi2, h4, mm_back]
  exact mm_go_fuel (fun y A σ r h3 => mm_run_fuel (Nat.le_max_right N N2) h3 (Nat.le_refl d)) h2 (Nat.le_refl _)
