def aN (A : a_A) : List a_T := a_all (aD A) (aV A) (aT A) (aF A)
def aG (A : a_A) : a_Gr := a_gr (aD A) (aV A) (aN A)
def aR (A : a_A) (f : Nat) : Nat := a_ix (aN A) (aT A f)
/-- what building changes -/
def rX (G G' : mg_G) : Prop := (∀ b, b < 155 ∨ 168 < b → G'.1 b = G.1 b ∧ G'.2.1 b = G.2.1 b) ∧ G'.2.2.1 = G.2.2.1 ∧ G'.2.2.2.1 = G.2.2.2.1 ∧ ∀ b k, ¬ (b = 148 ∧ (k = 16 ∨ k = 28 ∨ k = 31)) → G'.2.2.2.2 b k = G.2.2.2.2 b k
theorem rX.rf (G : mg_G) : rX G G := ⟨fun _ _ => ⟨rfl, rfl⟩, rfl, rfl, fun _ _ _ => rfl⟩
theorem rX.tr {G G' G'' : mg_G} (h : rX G G') (h2 : rX G' G'') : rX G G'' :=
  ⟨fun b hb => ⟨(h2.1 b hb).1.trans (h.1 b hb).1, (h2.1 b hb).2.trans (h.1 b hb).2⟩, h2.2.1.trans h.2.1, h2.2.2.1.trans h.2.2.1, fun b k hb => (h2.2.2.2 b k hb).trans (h.2.2.2 b k hb)⟩
theorem rX.i {G G' : mg_G} (h : rX G G') {z k : Nat} (x : Int32) (hz : 155 ≤ z ∧ z ≤ 168) : rX G (mg_sI G' z k x) :=
  ⟨fun b hb => ⟨(mg_u2_ne _ _ _ (by omega)).trans (h.1 b hb).1, (h.1 b hb).2⟩, h.2⟩
theorem rX.uJ {G G' : mg_G} (h : rX G G') {z : Nat} (f : Nat → Int64) (hz : 155 ≤ z ∧ z ≤ 168) : rX G (G'.1, mg_u G'.2.1 z f, G'.2.2) :=
  ⟨fun b hb => ⟨(h.1 b hb).1, (mg_u_ne _ _ (by omega)).trans (h.1 b hb).2⟩, h.2⟩
theorem rX.s {G G' : mg_G} (h : rX G G') {k : Nat} (x : Value) (hk : k = 16 ∨ k = 28 ∨ k = 31) : rX G (mg_sF G' 148 k x) :=
  ⟨h.1, h.2.1, h.2.2.1, fun b j hb => ((mg_u2_at _ _ _ _ _ _).trans (if_neg (fun q => hb ⟨q.1, by omega⟩))).trans (h.2.2.2 b j hb)⟩
theorem bA.c {G G' : mg_G} {p q : Nat} {A : a_A} (h : bA G p q A) (e1 : G'.1 149 = G.1 149) (e2 : G'.2.1 150 = G.2.1 150) : bA G' p q A := by
  unfold bA rNm at *
  rw [e1, e2]
  exact h
theorem rX.I {G G' : mg_G} {A : a_A} (h : rX G G') (hI : rI G A) : rI G' A :=
  ⟨fun v hv => by rw [(h.1 154 (by omega)).2]; exact hI.1 v hv, hI.2.1.c (h.1 149 (by omega)).1 (h.1 150 (by omega)).2, hI.2.2⟩
theorem aW.o8 {A : a_A} (h : aW A) : ∀ j, j < aV A → aD A j < 8 := fun j hj => by
  have h1 := h.2.1.1 j hj
  have h2 := h.2.1.2.2.2
  omega
theorem aW.N {A : a_A} (h : aW A) : (aN A).length ≤ 626 := a_all_626 h.2.1 h.2.2.1 h.2.2.2.1
section RM
variable {scr : Nat × (Nat → Int32)} {t : List mg_S} {G : mg_G} {A : a_A}
end RM
section RM
variable {scr : Nat × (Nat → Int32)} {t : List mg_S} {G : mg_G} {A : a_A}
end RM
