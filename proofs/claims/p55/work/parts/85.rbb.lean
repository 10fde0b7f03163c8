def a_tb4 (f : Nat → Int64) : a_T := (f 0, f 1, f 2, f 3)
theorem a_wd4 (f : Nat → Int64) (w : Nat) (hw : w < 4) : a_wd (a_tb4 f) w = f w := by
  rcases (show w = 0 ∨ w = 1 ∨ w = 2 ∨ w = 3 by omega) with rfl | rfl | rfl | rfl <;> rfl
def a_op (op : Int32) (x y : a_T) : a_T := a_tb4 fun w => a_comb op (a_wd x w) (a_wd y w)
def a_sel (c x y : a_T) : a_T := a_tb4 fun w => (a_wd c w &&& a_wd x w) ||| ((a_wd c w ^^^ (-1 : Int64)) &&& a_wd y w)
def a_not (x : a_T) : a_T := a_tb4 fun w => a_wd x w ^^^ (-1 : Int64)
def a_qu (all : Bool) (v : Nat) (x : a_T) : a_T := a_op (if all then 0 else 1) (a_cf x v false) (a_cf x v true)
def a_var (v : Nat) : a_T := a_tb4 (a_vw v)
def rK (G : mg_G) (ts : List a_T) : Prop := G.2.2.2.2 148 28 = .int (Int32.ofNat ts.length) ∧ ∀ i T, ts[i]? = some T → cRow G 164 i 4 T
theorem mg_addN (a b : Nat) : Int32.ofNat a + Int32.ofNat b = Int32.ofNat (a + b) := (Int32.ofNat_add a b).symm
theorem rX.cW {G G' : mg_G} (h : rX G G') (r n : Nat) (g : Nat → Int64) : rX G (cW G' 164 r n g) := h.uJ _ (by decide)
section RM
variable {scr : Nat × (Nat → Int32)} {t : List mg_S} {G : mg_G} {A : a_A}
end RM
