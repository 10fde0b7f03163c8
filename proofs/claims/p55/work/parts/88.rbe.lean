def setC (A : a_A) (v : Nat) (x : Int32) : a_A := (aV A, aF A, aD A, mg_u (aC A) v x, aP A, aVN A, aFN A, aT A)
def setP (A : a_A) (v : Nat) (x : Int32) : a_A := (aV A, aF A, aD A, aC A, mg_u (aP A) v x, aVN A, aFN A, aT A)
def setD (A : a_A) (ord : Nat → Nat) : a_A := (aV A, aF A, ord, aC A, aP A, aVN A, aFN A, aT A)
theorem setC_W {A : a_A} (h : aW A) (v : Nat) (x : Int32) : aW (setC A v x) := h
theorem setP_W {A : a_A} (h : aW A) (v p : Nat) (hp : p ≤ 100) : aW (setP A v (Int32.ofNat p)) := by
  obtain ⟨h1, h2, h3, h4, h5, h6, h7⟩ := h
  refine ⟨h1, h2, h3, h4, h5, h6, fun u hu => ?_⟩
  show ∃ q, q ≤ 100 ∧ mg_u (aP A) v (Int32.ofNat p) u = Int32.ofNat q
  by_cases e : u = v
  · subst e
    exact ⟨p, hp, mg_u_eq _ _ _⟩
  · rw [mg_u_ne _ _ e]
    exact h7 u hu
theorem setD_W {A : a_A} (h : aW A) {ord : Nat → Nat} (ho : aO ord (aV A)) : aW (setD A ord) := ⟨h.1, ho, h.2.2⟩
def p321 (S : a_S) : a_S × qR := match (sU S).getLast? with
  | none => (S, (1, 0))
  | some B => ((B, (sU S).dropLast, S.2.2), (0, Int32.ofNat ((sU S).length - 1)))
section RM
variable {scr : Nat × (Nat → Int32)} {t : List mg_S} {G : mg_G} {S : a_S}
end RM
