def rGr (G : mg_G) (ord : Nat → Nat) (g : a_Gr) : Prop := G.2.2.2.2 148 16 = .int (Int32.ofNat (gN g)) ∧ (∀ b, b = 156 ∨ b = 157 ∨ b = 158 → G.1 b 0 = Int32.ofInt (-1) ∧ G.1 b 1 = Int32.ofInt (-1)) ∧ ∀ k, 2 ≤ k → k < gN g → G.1 156 k = Int32.ofNat (ord (gL g k)) ∧ G.1 157 k = Int32.ofNat (gO g k) ∧ G.1 158 k = Int32.ofNat (gH g k)
theorem rAll.gr {G G' : mg_G} {ord : Nat → Nat} {nv f : Nat} (h : rAll G ord nv f G') : rGr G' ord (a_gr ord nv (a_all ord nv (a_tb G) f)) := by
  obtain ⟨-, h2, -, h4, h5⟩ := h
  refine ⟨h2.1, h5, fun k hk hl => ?_⟩
  have hl : k < (a_all ord nv (a_tb G) f).length + 2 := hl
  obtain ⟨T, kl, kh, e, h6, e1, e2, h7, e3, h8⟩ := h4 (k - 2) (by omega)
  rw [show k - 2 + 2 = k by omega] at e1 e2 e3
  obtain ⟨g1, g2, g3⟩ := a_gr_at (ord := ord) (nv := nv) (a_all_nd ord nv (a_tb G) f) (a_all_nl ord nv (a_tb G) f) hk e
  rw [g1, g2 kl h7, g3 kh h8]
  exact ⟨e1, e2, e3⟩
theorem rAll.cl {G G' : mg_G} {ord : Nat → Nat} {nv f : Nat} (h : rAll G ord nv f G') : aCl ord nv (a_all ord nv (a_tb G) f) := fun i hi => by
  obtain ⟨T, kl, kh, e, h6, -, -, h7, -, h8⟩ := h.2.2.2.1 i hi
  exact ⟨T, kl, kh, e, h6, h7, h8⟩
theorem mg_n1 {s : Nat} (h : s < 2147483648) : ¬ Int32.ofNat s = Int32.ofInt (-1) := fun e => by
  have h1 : (Int32.ofNat s).toInt = s := Int32.toInt_ofNat_of_lt h
  have h2 := congrArg Int32.toInt e
  rw [h1, show (Int32.ofInt (-1)).toInt = -1 from by decide] at h2
  omega
/-- marks in an array of truth values -/
def b2 (b : Bool) : Int32 := if b then 1 else 0
abbrev gM (G : mg_G) (z : Nat) (f : Nat → Int32) : mg_G := (mg_u G.1 z f, G.2)
theorem g_rc_nv {nv : Nat} {g : a_Gr} (hg : gW nv g) {k : Nat} (h2 : 2 ≤ k) (hk : k < gN g) (y : Nat) : g_rc g nv k y = (y == k || g_rc g nv (gO g k) y || g_rc g nv (gH g k) y) := by
  obtain ⟨q1, q2, q3, q4, q5⟩ := hg.2.2.2.2 k h2 hk
  rw [g_rc_m hg nv (nv + 1) k y hk (by omega) (by omega), g_rc_in g nv k y h2]
theorem gCl.add {nv l : Nat} {g : a_Gr} (hg : gW nv g) {M : Nat → Bool} (h : gCl g nv l M) {k : Nat} (hk : k < gN g) : gCl g nv l (fun y => M y || g_rc g nv k y) := by
  intro k2 hk2 hl hM y hy
  have hM : (M k2 || g_rc g nv k k2) = true := hM
  show (M y || g_rc g nv k y) = true
  rcases (Bool.or_eq_true _ _).mp hM with h1 | h1
  · rw [h k2 hk2 hl h1 y hy, Bool.true_or]
  · rw [g_rc_tr hg nv k k2 y hk (by omega) h1 hy, Bool.or_true]
section RM
variable {scr : Nat × (Nat → Int32)} {t : List mg_S} {G : mg_G} {ord : Nat → Nat} {nv : Nat} {g : a_Gr}
theorem gCl.mono {nv l l' : Nat} {g : a_Gr} {M : Nat → Bool} (h : gCl g nv l M) (hl : l ≤ l') : gCl g nv l' M := fun k hk h2 => h k hk (Nat.le_trans hl h2)
theorem gM_u (G : mg_G) (z k : Nat) (f : Nat → Int32) (x : Int32) : ((mg_u2 (mg_u G.1 z f) z k x, G.2) : mg_G) = gM G z (mg_u f k x) := by rw [mg_u2_u]
end RM
