theorem k_at_lt {N : Nat → List Nat} {n i : Nat} {l : List Nat} {p : Nat} (h : k_at N n l p = some i) : i < n := by
  unfold k_at at h
  rcases a_ff_is (fun i => decide (N i = k_W l p)) n with ⟨k, hk, e1, -, -⟩ | ⟨e1, -⟩
  · rw [e1] at h; cases h; exact hk
  · rw [e1] at h; cases h
/-- where the reading of a formula stands, as against G -/
def zS (G G' : mg_G) (l : List Nat) (p o : Nat) (ts : List a_T) : Prop := rRf G G' ∧ rk G' l p ∧ rK G' ts ∧ G'.2.2.2.2 148 26 = .int (Int32.ofNat o) ∧ G'.2.2.2.2 148 6 = G.2.2.2.2 148 6 ∧ G'.2.2.2.2 148 7 = G.2.2.2.2 148 7
theorem zI.S {G : mg_G} {A : a_A} {l : List Nat} {p o : Nat} {ts : List a_T} (h : zI G A l p o ts) : zS G G l p o ts := ⟨rRf.rf G, h.2.2.1, h.2.2.2.1, h.2.2.2.2, rfl, rfl⟩
theorem zS.I {G G' : mg_G} {A : a_A} {l : List Nat} {p o : Nat} {ts : List a_T} (h : zS G G' l p o ts) (hI : rI G A) (hN : rIn G l) : zI G' A l p o ts := ⟨h.1.I hI, h.1.n hN, h.2.1, h.2.2.1, h.2.2.2.1⟩
theorem zS.f {G G' G2 : mg_G} {l : List Nat} {p q o : Nat} {ts : List a_T} (h : zS G G' l p o ts) (hk : rk G2 l q) (hf : rKf G' G2) : zS G G2 l q o ts := ⟨h.1.tr hf.o.R, hk, hf.o.K h.2.2.1, (hf.2.2.2.2 148 26 (by decide)).trans h.2.2.2.1, (hf.2.2.2.2 148 6 (by decide)).trans h.2.2.2.2.1, (hf.2.2.2.2 148 7 (by decide)).trans h.2.2.2.2.2⟩
theorem zS.o {G G' G2 : mg_G} {l : List Nat} {p q o o' : Nat} {ts : List a_T} (h : zS G G' l p o ts) (hk : rk G2 l q) (ho : G2.2.2.2.2 148 26 = .int (Int32.ofNat o')) (hf : rKo G' G2) : zS G G2 l q o' ts := ⟨h.1.tr hf.R, hk, hf.K h.2.2.1, ho, (hf.2.2.2.2 148 6 (by decide)).trans h.2.2.2.2.1, (hf.2.2.2.2 148 7 (by decide)).trans h.2.2.2.2.2⟩
theorem zS.q {G G1 G2 : mg_G} {l : List Nat} {p q o : Nat} {ts : List a_T} {T : a_T} {ou : Option Value ⊕ String} {k : Nat} (h : zS G G1 l p o ts) (w : zQ G1 l o ts (.inr (T, q)) ou k G2) : k = 0 ∧ ou = .inl (some (.int 1)) ∧ zS G G2 l q o (ts ++ [T]) := ⟨w.1, w.2.2.1, h.1.tr w.2.1, w.2.2.2.1, w.2.2.2.2.1, w.2.2.2.2.2.1, w.2.2.2.2.2.2.1.trans h.2.2.2.2.1, w.2.2.2.2.2.2.2.trans h.2.2.2.2.2⟩
theorem zS.Q {G G' : mg_G} {l : List Nat} {p o : Nat} {ts : List a_T} {T : a_T} (h : zS G G' l p o (ts ++ [T])) : zQ G l o ts (.inr (T, p)) (.inl (some (.int 1))) 0 G' := ⟨rfl, h.1, rfl, h.2.1, h.2.2.1, h.2.2.2.1, h.2.2.2.2.1, h.2.2.2.2.2⟩
section RM
variable {scr : Nat × (Nat → Int32)} {t : List mg_S} {A : a_A} {l : List Nat} {n o p : Nat} {ts : List a_T} {r : zEr ⊕ (a_T × Nat)} {G G0 : mg_G}
end RM
