/-- which of the first n names stands behind p -/
def k_at (N : Nat → List Nat) (n : Nat) (l : List Nat) (p : Nat) : Option Nat := a_ff (fun i => decide (N i = k_W l p)) n
section RM
variable {scr : Nat × (Nat → Int32)} {t : List mg_S} {G : mg_G} {l : List Nat} {p : Nat}
end RM
section CG
variable {K : mg_K} {s nv nf : Nat} {G : mg_G} {l : List Nat} {p : Nat}
/-- the class's look-ups, of the word that stands behind p -/
theorem c69w (d : Nat) (H : kS K s) (h8 : nv < 9) (e : G.2.2.2.2 s 7 = .int (Int32.ofNat nv)) (hp : p ≤ l.length) (h1 : k_K l p = 1) {N : Nat → List Nat} (hN : ∀ v, v < nv → G.2.1 (s + 4) v = a_pk (N v) ∧ a_nm7 (N v)) : mg_m K (d + 1) 69 [.ref s, .long (a_pk (k_W l p))] G (mg_v (.int (a_oi (k_at N nv l p))) G) := by
  have h := c69 (K := K) d H h8 e (a_pk (k_W l p))
  rwa [show a_ff (fun v => decide (G.2.1 (s + 4) v = a_pk (k_W l p))) nv = k_at N nv l p from a_ff_c fun v hv => by
    obtain ⟨e1, e2⟩ := hN v hv
    rw [e1]
    exact decide_eq_decide.mpr (a_pk_inj e2 (k_W_nm hp h1).1)] at h
theorem c68w (d : Nat) (H : kS K s) (h12 : nf ≤ 12) (e : G.2.2.2.2 s 6 = .int (Int32.ofNat nf)) (hp : p ≤ l.length) (h1 : k_K l p = 1) {N : Nat → List Nat} (hN : ∀ v, v < nf → G.2.1 (s + 3) v = a_pk (N v) ∧ a_nm7 (N v)) : mg_m K (d + 1) 68 [.ref s, .long (a_pk (k_W l p))] G (mg_v (.int (a_oi (k_at N nf l p))) G) := by
  have h := c68 (K := K) d H h12 e (a_pk (k_W l p))
  obtain ⟨w1, w2, -⟩ := k_W_nm hp h1
  rwa [show a_ff (fun v => decide (a_pk (k_W l p) ≠ 0 ∧ G.2.1 (s + 3) v = a_pk (k_W l p))) nf = k_at N nf l p from a_ff_c fun v hv => by
    obtain ⟨e1, e2⟩ := hN v hv
    rw [e1]
    exact decide_eq_decide.mpr ⟨fun q => (a_pk_inj e2 w1).mp q.2, fun q => ⟨fun z => w2 ((a_pk_0 w1).mp z), (a_pk_inj e2 w1).mpr q⟩⟩] at h
end CG
