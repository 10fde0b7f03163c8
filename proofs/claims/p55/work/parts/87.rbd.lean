section RM
variable {scr : Nat × (Nat → Int32)} {t : List mg_S} {G : mg_G} {A : a_A} {S : a_S}
/-- what an operation leaves: S with a new function T (or what is thrown) -/
def pNew (S : a_S) (T : a_T) : a_S × qR := if aF (sA S) = 12 then (S, (2, 0)) else (sAdd S T, (0, Int32.ofNat (aF (sA S))))
def pNew3 (S : a_S) (T : a_T) : a_S × qR := if aF (sA S) = 12 then (S, (3, 0)) else (sAdd S T, (0, Int32.ofNat (aF (sA S))))
def pF (S : a_S) (f : Int32) (k : Nat → a_S × qR) : a_S × qR := match vi f (aF (sA S)) with
  | none => (S, (1, 0))
  | some f => k f
def pV (S : a_S) (f : Int32) (k : Nat → a_S × qR) : a_S × qR := match vi f (aV (sA S)) with
  | none => (S, (1, 0))
  | some f => k f
theorem pF_y {S : a_S} {f : Int32} {k : Nat → a_S × qR} {i : Nat} (h : vi f (aF (sA S)) = some i) : pF S f k = k i := by unfold pF; rw [h]
theorem pF_x {S : a_S} {f : Int32} {k : Nat → a_S × qR} (h : vi f (aF (sA S)) = none) : pF S f k = (S, (1, 0)) := by unfold pF; rw [h]
theorem pV_y {S : a_S} {f : Int32} {k : Nat → a_S × qR} {i : Nat} (h : vi f (aV (sA S)) = some i) : pV S f k = k i := by unfold pV; rw [h]
theorem pV_x {S : a_S} {f : Int32} {k : Nat → a_S × qR} (h : vi f (aV (sA S)) = none) : pV S f k = (S, (1, 0)) := by unfold pV; rw [h]
def p307 (S : a_S) (op f g : Int32) : a_S × qR := pF S f fun f => pF S g fun g => match vi op 6 with
  | none => (S, (2, 0))
  | some _ => pNew3 S (a_op op (aT (sA S) f) (aT (sA S) g))
def p308 (S : a_S) (f g h : Int32) : a_S × qR := pF S f fun f => pF S g fun g => pF S h fun h => pNew S (a_sel (aT (sA S) f) (aT (sA S) g) (aT (sA S) h))
def p309 (S : a_S) (f : Int32) : a_S × qR := pF S f fun f => pNew S (a_not (aT (sA S) f))
def p310 (S : a_S) (f v : Int32) (b : Bool) : a_S × qR := pF S f fun f => pV S v fun v => pNew S (a_cf (aT (sA S) f) v b)
def p311 (S : a_S) (f v : Int32) (b : Bool) : a_S × qR := pF S f fun f => pV S v fun v => pNew S (a_qu b v (aT (sA S) f))
def p312 (S : a_S) (f v g : Int32) : a_S × qR := pF S f fun f => pV S v fun v => pF S g fun g => pNew S (a_sel (aT (sA S) g) (a_cf (aT (sA S) f) v true) (a_cf (aT (sA S) f) v false))
end RM
