/-- only the written text is changed -/
def rWc (G G' : mg_G) : Prop := (∀ b, b ≠ 153 → G'.1 b = G.1 b) ∧ G'.2.1 = G.2.1 ∧ G'.2.2.1 = G.2.2.1 ∧ G'.2.2.2.1 = G.2.2.2.1 ∧ ∀ b k, ¬ (b = 148 ∧ k = 9) → G'.2.2.2.2 b k = G.2.2.2.2 b k
theorem rWc.rf (G : mg_G) : rWc G G := ⟨fun _ _ => rfl, rfl, rfl, rfl, fun _ _ _ => rfl⟩
theorem rWc.tr {G G' G'' : mg_G} (h : rWc G G') (h2 : rWc G' G'') : rWc G G'' :=
  ⟨fun b hb => (h2.1 b hb).trans (h.1 b hb), h2.2.1.trans h.2.1, h2.2.2.1.trans h.2.2.1, h2.2.2.2.1.trans h.2.2.2.1, fun b k hb => (h2.2.2.2.2 b k hb).trans (h.2.2.2.2 b k hb)⟩
theorem rWc.I {G G' : mg_G} {A : a_A} (h : rWc G G') (hI : rI G A) : rI G' A := ⟨fun v hv => by rw [h.2.1]; exact hI.1 v hv, hI.2.1.c (h.1 149 (by decide)) (by rw [h.2.1]), hI.2.2⟩
theorem rWc.gr {G G' : mg_G} {ord : Nat → Nat} {g : a_Gr} (h : rWc G G') (hR : rGr G ord g) : rGr G' ord g :=
  ⟨(h.2.2.2.2 148 16 (by decide)).trans hR.1, fun b hb => by rw [h.1 b (by omega)]; exact hR.2.1 b hb, fun k h1 h2 => by rw [h.1 156 (by decide), h.1 157 (by decide), h.1 158 (by decide)]; exact hR.2.2 k h1 h2⟩
section RM
variable {scr : Nat × (Nat → Int32)} {t : List mg_S} {G : mg_G} {A : a_A} {S : a_S} {l : List Nat}
/-- what writing w behind l leaves -/
def rWQ (G : mg_G) (l : List Nat) : mg_Q := fun o q G' => o = .inl none ∧ q = 0 ∧ rWr G' l ∧ rWc G G'
/-- another write behind one -/
theorem rWQ.s {K : mg_K} {d d' y : Nat} {As : List Value} {G0 G : mg_G} {l' : List Nat} (h : mg_m K d y As G (rWQ G l')) (hc : rWc G0 G) (hd : d ≤ d') {Q : mg_Q} (hQ : ∀ G', rWr G' l' → rWc G0 G' → Q (.inl none) 0 G') : mg_m K d' y As G Q := by
  refine mg_m_mono h hd ?_
  rintro o q G' ⟨rfl, rfl, h1, h2⟩
  exact hQ G' h1 (hc.tr h2)
end RM
