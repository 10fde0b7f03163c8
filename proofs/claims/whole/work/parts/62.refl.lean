/-! REFERENCE: build -/
/-- the memory behind useOrder -/
def rO (G : mg_G) (nv : Nat) : mg_G := (mg_u G.1 161 (fun j => if j < nv then G.1 149 (2 + j) else G.1 161 j), G.2)
/-- what the reference's block 0 says of the order, and the masks -/
def rS (G : mg_G) (ord : Nat → Nat) (nv nf : Nat) : Prop := (∀ v, v < 6 → G.2.1 154 v = a_m v) ∧ G.1 149 0 = Int32.ofNat nv ∧ nv ≤ 8 ∧ G.1 149 1 = Int32.ofNat nf ∧ nf ≤ 12 ∧ (∀ j, j < nv → G.1 149 (2 + j) = Int32.ofNat (ord j) ∧ ord j < 8)
/-- the functions know no variable beside the order's -/
def rU (G : mg_G) (ord : Nat → Nat) (nv nf : Nat) : Prop := ∀ f, f < nf → ∀ v, v < 8 → a_dp (a_tb G f) v = true → ∃ j, j < nv ∧ ord j = v
theorem rO_H {G : mg_G} {ord : Nat → Nat} {nv nf : Nat} (h : rS G ord nv nf) : rH (rO G nv) ord nv := by
  obtain ⟨h1, h2, h3, h4, h5, h6⟩ := h
  refine ⟨h1, fun j hj => ⟨?_, (h6 j hj).2⟩, h3⟩
  show mg_u G.1 161 (fun j => if j < nv then G.1 149 (2 + j) else G.1 161 j) 161 j = _
  rw [mg_u_eq, if_pos hj]
  exact (h6 j hj).1
section RM
variable {scr : Nat × (Nat → Int32)} {t : List mg_S}
theorem r201 (d : Nat) {G : mg_G} {ord : Nat → Nat} {nv nf : Nat} (hS : rS G ord nv nf) (hU : rU G ord nv nf) (hlen : (a_all ord nv (a_tb G) nf).length ≤ 998) : mg_m (mg_KM scr t) (d + nv + 7) 201 [.ref 148] G (rBQ (rO G nv) ord nv nf) := by
  have hf : (rO G nv).1 149 1 = Int32.ofNat nf := (congrFun (mg_u_ne G.1 (fun j => if j < nv then G.1 149 (2 + j) else G.1 161 j) (by decide : (149 : Nat) ≠ 161)) 1).trans hS.2.2.2.1
  have hp := r195 (scr := scr) (t := t) (d + nv + 4) nv G hS.2.1 (by have := hS.2.2.1; omega)
  have hq := r200 (scr := scr) (t := t) d (G := rO G nv) (rO_H hS) hf hS.2.2.2.2.1 hU hlen
  refine mg_me [] 20 my_201 ms_201 (Nat.le_of_ble_eq_true rfl) ?_
  refine ⟨Or.inr ⟨_, rfl⟩, mg_cn hp (by omega) ?_⟩
  refine ⟨Or.inr ⟨_, rfl⟩, mg_m_mono hq (by omega) ?_⟩
  rintro o k G2 ⟨rfl, rfl, hA⟩
  exact ⟨Or.inl rfl, rfl, rfl, hA⟩
end RM
