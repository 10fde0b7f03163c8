/-! THE START: the law's own objects, its first text: nine of them, by evaluation -/
def gy_e (n k : Nat) : Option mm_N := gz_e mc_law 65 100 23 [some (.ref 1000002), some (.ref 0), some (.int (Int32.ofNat n)), none, none, none, none, none] [.int (Int32.ofNat k)] 148 [] (true, 148, 23825)
def gy_v (n : Nat) : Nat := if n = 3 then 7 else if n = 4 then 11 else 12
def gy_t (n k : Nat) : List Nat := k_str (gy_v n) ++ k_str (14 + k)
def gy_c (n k : Nat) : Nat := 16 + (if (gy_t n k).length - 16 < 18 then 18 else (gy_t n k).length - 16)
def gy_w (n k : Nat) : Bool × Nat × Nat := (true, 157, 23825 + 123 + 24 + gy_c n k + (gy_t n k).length)
def gy_J (n k : Nat) : Nat := ((gy_t n k).length + 19) / 20
/-- the run up to the text, its memory -/
def gy_1 (n k : Nat) : Bool := gz_s 65 [some (.ref 1000002), some (.ref 0), some (.int (Int32.ofNat n)), some (.int (Int32.ofNat k)), some (.ref 148), none, none, none] [.ref 155, .ref 0] (gy_w n k) (gy_e n k) && gz_k (shT n ++ shS (gy_c n k) (gy_t n k).length) (gz_T 148 (gy_e n k))
/-- what stands there: the counts, the text's bytes -/
def gy_2 (n k : Nat) (T : List mm_C) : Bool := decide (gz_F T[0]? 3 = .int (Int32.ofNat 3)) && decide (gz_F T[0]? 6 = .int (Int32.ofNat 0)) && (List.range (gy_t n k).length).all (fun i => decide (gz_I T[8]? i = Int32.ofNat ((gy_t n k).getD i 0)) && decide ((gy_t n k).getD i 0 < 128))
/-- the text, read: as many variables and functions, their tables the law's -/
def gy_3 (n k : Nat) (T : List mm_C) : Bool := match tY (gy_t n k) with
  | .inl _ => false
  | .inr x => decide (aV x.1 = n) && decide (aF x.1 = 3) && (List.range 3).all (fun f => decide (gz_J T[1]? f = tt n (aT x.1 f)))
/-- the appends -/
def gy_4 (n k : Nat) : Bool := decide ((gy_t n k).length < 400) && decide ((gy_t n k).length ≤ 20 * gy_J n k) && (List.range (gy_J n k)).all (fun j => decide (20 * j < (gy_t n k).length)) && decide (gy_J n k < 25) && decide ((sy_l (gy_t n k) (gy_J n k)).take (gy_t n k).length = gy_t n k)
theorem gy_3_0_4 : gy_4 3 0 = true := by decide +kernel
theorem gy_3_1_4 : gy_4 3 1 = true := by decide +kernel
theorem gy_3_2_4 : gy_4 3 2 = true := by decide +kernel
theorem gy_4_0_4 : gy_4 4 0 = true := by decide +kernel
theorem gy_4_1_4 : gy_4 4 1 = true := by decide +kernel
theorem gy_4_2_4 : gy_4 4 2 = true := by decide +kernel
theorem gy_5_0_4 : gy_4 5 0 = true := by decide +kernel
theorem gy_5_1_4 : gy_4 5 1 = true := by decide +kernel
theorem gy_5_2_4 : gy_4 5 2 = true := by decide +kernel
theorem gy_3_0_1 : gy_1 3 0 = true := by decide +kernel
theorem gy_3_0_2 : gy_2 3 0 (gz_T 148 (gy_e 3 0)) = true := by decide +kernel
theorem gy_3_0_3 : gy_3 3 0 (gz_T 148 (gy_e 3 0)) = true := by decide +kernel
theorem gy_3_1_1 : gy_1 3 1 = true := by decide +kernel
theorem gy_3_1_2 : gy_2 3 1 (gz_T 148 (gy_e 3 1)) = true := by decide +kernel
theorem gy_3_1_3 : gy_3 3 1 (gz_T 148 (gy_e 3 1)) = true := by decide +kernel
theorem gy_3_2_1 : gy_1 3 2 = true := by decide +kernel
theorem gy_3_2_2 : gy_2 3 2 (gz_T 148 (gy_e 3 2)) = true := by decide +kernel
theorem gy_3_2_3 : gy_3 3 2 (gz_T 148 (gy_e 3 2)) = true := by decide +kernel
theorem gy_4_0_1 : gy_1 4 0 = true := by decide +kernel
theorem gy_4_0_2 : gy_2 4 0 (gz_T 148 (gy_e 4 0)) = true := by decide +kernel
theorem gy_4_0_3 : gy_3 4 0 (gz_T 148 (gy_e 4 0)) = true := by decide +kernel
theorem gy_4_1_1 : gy_1 4 1 = true := by decide +kernel
theorem gy_4_1_2 : gy_2 4 1 (gz_T 148 (gy_e 4 1)) = true := by decide +kernel
theorem gy_4_1_3 : gy_3 4 1 (gz_T 148 (gy_e 4 1)) = true := by decide +kernel
theorem gy_4_2_1 : gy_1 4 2 = true := by decide +kernel
theorem gy_4_2_2 : gy_2 4 2 (gz_T 148 (gy_e 4 2)) = true := by decide +kernel
theorem gy_4_2_3 : gy_3 4 2 (gz_T 148 (gy_e 4 2)) = true := by decide +kernel
theorem gy_5_0_1 : gy_1 5 0 = true := by decide +kernel
theorem gy_5_0_2 : gy_2 5 0 (gz_T 148 (gy_e 5 0)) = true := by decide +kernel
theorem gy_5_0_3 : gy_3 5 0 (gz_T 148 (gy_e 5 0)) = true := by decide +kernel
theorem gy_5_1_1 : gy_1 5 1 = true := by decide +kernel
theorem gy_5_1_2 : gy_2 5 1 (gz_T 148 (gy_e 5 1)) = true := by decide +kernel
theorem gy_5_1_3 : gy_3 5 1 (gz_T 148 (gy_e 5 1)) = true := by decide +kernel
theorem gy_5_2_1 : gy_1 5 2 = true := by decide +kernel
theorem gy_5_2_2 : gy_2 5 2 (gz_T 148 (gy_e 5 2)) = true := by decide +kernel
theorem gy_5_2_3 : gy_3 5 2 (gz_T 148 (gy_e 5 2)) = true := by decide +kernel
