def a_ts (A : a_A) (v : Nat) : Int32 := a_sum (fun i => if aD A (gL (aG A) (i + 2)) = v then 1 else 0) (gN (aG A) - 2)
def a_fe (A : a_A) (f : Nat) : Option Nat := a_ff (fun g => decide (aT A f = aT A g)) f
def a_lvl (A : a_A) (v : Nat) : Nat := (a_ff (fun j => aD A j == v) (aV A)).getD 0
def q260 (A : a_A) (u : Nat) (w : Int32) : qR := match vi w 7 with
  | none => (1, 0)
  | some 0 => (0, Int32.ofNat (aV A))
  | some 1 => (0, Int32.ofNat (aF A))
  | some 2 => (0, Int32.ofNat (aN A).length)
  | some 3 => (0, a_sum (fun v => if 0 < a_ts A v then 1 else 0) (aV A))
  | some 4 => (0, a_sum (fun f => if a_fe A f = none then 1 else 0) (aF A))
  | some 5 => (0, a_sum (fun f => if a_sup A f = 0 then 1 else 0) (aF A))
  | some _ => (0, Int32.ofNat u)
def q261 (A : a_A) (v w : Int32) : qR := qV A v fun v => match vi w 6 with
  | none => (2, 0)
  | some 0 => (0, Int32.ofNat (a_lvl A v))
  | some 1 => (0, aC A v)
  | some 2 => (0, aP A v)
  | some 3 => (0, a_ts A v)
  | some 4 => (0, a_sum (fun f => if a_dp (aT A f) v then 1 else 0) (aF A))
  | some _ => (0, Int32.ofNat (aVN A v).length)
def q267 (A : a_A) (k w : Int32) : qR := match vi k (gN (aG A)) with
  | none => (1, 0)
  | some k => match vi w 6 with
    | none => (2, 0)
    | some 0 => (0, if k < 2 then Int32.ofInt (-1) else Int32.ofNat (aD A (gL (aG A) k)))
    | some 1 => (0, if k < 2 then Int32.ofInt (-1) else Int32.ofNat (gO (aG A) k))
    | some 2 => (0, if k < 2 then Int32.ofInt (-1) else Int32.ofNat (gH (aG A) k))
    | some 3 => (0, a_sum (fun i => if gO (aG A) (i + 2) = k ∨ gH (aG A) (i + 2) = k then 1 else 0) (gN (aG A) - 2))
    | some 4 => (0, a_sum (fun f => b2 (g_rc (aG A) (aV A) (aR A f) k)) (aF A))
    | some _ => (0, a_sum (fun f => if aR A f = k then 1 else 0) (aF A))
theorem a_lvl_at {A : a_A} (hW : aW A) {v : Nat} (hv : v < aV A) : a_lvl A v < aV A ∧ aD A (a_lvl A v) = v ∧ ∀ j, j < a_lvl A v → aD A j ≠ v := by
  obtain ⟨j, hj, e⟩ := hW.2.1.2.1 v hv
  unfold a_lvl
  rcases a_ff_is (fun j => aD A j == v) (aV A) with ⟨k, h1, h2, h3, h4⟩ | ⟨h1, h2⟩
  · rw [h2]
    exact ⟨h1, by simpa using h3, fun j hj => by simpa using h4 j hj⟩
  · have := h2 j hj
    rw [e] at this
    simp at this
section RM
variable {scr : Nat × (Nat → Int32)} {t : List mg_S} {G : mg_G} {A : a_A}
end RM
