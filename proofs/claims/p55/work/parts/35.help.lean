theorem mg_Fs {K : mg_K} {G : mg_G} {a c k : Nat} {T : List (Option Value)} {v : Value} (h : K.2[a]? = some (.inr (c, T))) (h2 : T[k]? = some (some v)) : mg_F K G a c k v := ⟨T, h, Or.inl h2⟩
theorem mg_Fe {K : mg_K} {G : mg_G} {a c k : Nat} {T : List (Option Value)} {v : Value} (e : G.2.2.2.2 a k = v) (h : K.2[a]? = some (.inr (c, T))) (h2 : T[k]? = some none) : mg_F K G a c k v := ⟨T, h, Or.inr ⟨h2, e.symm⟩⟩
theorem mg_Ai {K : mg_K} {G : mg_G} {a n : Nat} (h : K.2[a]? = some (.inl (0, n))) (ha : a < 1000000) : mg_A K G a 0 n (.inl (G.1 a)) := Or.inl ⟨ha, h, rfl⟩
theorem mg_Ab {K : mg_K} {G : mg_G} {a n : Nat} (h : K.2[a]? = some (.inl (2, n))) (ha : a < 1000000) : mg_A K G a 2 n (.inl (G.1 a)) := Or.inl ⟨ha, h, rfl⟩
theorem mg_Al {K : mg_K} {G : mg_G} {a n : Nat} (h : K.2[a]? = some (.inl (1, n))) (ha : a < 1000000) : mg_A K G a 1 n (.inr (.inl (G.2.1 a))) := Or.inl ⟨ha, h, rfl⟩
theorem mg_Ar {K : mg_K} {G : mg_G} {a n : Nat} (h : K.2[a]? = some (.inl (5, n))) (ha : a < 1000000) : mg_A K G a 5 n (.inr (.inr (.inr (.inr (G.2.2.2.1 a))))) := Or.inl ⟨ha, h, rfl⟩
theorem mg_Ao {K : mg_K} {G : mg_G} {a t n : Nat} {f : (Nat → Int32) ⊕ (Nat → Int64) ⊕ (Nat → UInt32) ⊕ (Nat → UInt64) ⊕ (Nat → Option Nat)} (h : mm_old K.1.1 K.1.2 a = some (t, n, f)) (ha : ¬ a < 1000000) : mg_A K G a t n f := Or.inr ⟨ha, h⟩
/-- an index that is a number -/
theorem mg_ixN {i : Nat} (h : i < 2147483648) : mg_ix (Int32.ofNat i) i := by
  have h1 : (Int32.ofNat i).toInt = i := Int32.toInt_ofNat_of_lt h
  refine ⟨fun h2 => ?_, ?_⟩
  · have := Int32.lt_iff_toInt_lt.mp h2
    rw [h1] at this
    have h0 : (0 : Int32).toInt = 0 := by decide
    omega
  · rw [Int32.toNatClampNeg, h1]
    exact Int.toNat_natCast i
theorem mg_ixE {j : Int32} {i : Nat} (e : j = Int32.ofNat i) (h : i < 2147483648) : mg_ix j i := e ▸ mg_ixN h
/-- one value, nothing thrown, this memory -/
def mg_v (v : Value) (G1 : mg_G) : mg_Q := fun o k G' => o = .inl (some v) ∧ k = 0 ∧ G' = G1
def mg_n (G1 : mg_G) : mg_Q := fun o k G' => o = .inl none ∧ k = 0 ∧ G' = G1
theorem mg_cv {K : mg_K} {d d' y : Nat} {A : List Value} {G G1 : mg_G} {v : Value} {Q : mg_Q} (h : mg_m K d y A G (mg_v v G1)) (hd : d ≤ d') (hq : Q (.inl (some v)) 0 G1) : mg_m K d' y A G Q := mg_m_mono h hd (fun o k G' h => by obtain ⟨rfl, rfl, rfl⟩ := h; exact hq)
theorem mg_cn {K : mg_K} {d d' y : Nat} {A : List Value} {G G1 : mg_G} {Q : mg_Q} (h : mg_m K d y A G (mg_n G1)) (hd : d ≤ d') (hq : Q (.inl none) 0 G1) : mg_m K d' y A G Q := mg_m_mono h hd (fun o k G' h => by obtain ⟨rfl, rfl, rfl⟩ := h; exact hq)
abbrev mg_KC (scr : Nat × (Nat → Int32)) (t : List mg_S) : mg_K := (scr, shC ++ t)
