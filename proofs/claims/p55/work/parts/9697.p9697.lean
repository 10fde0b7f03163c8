section KC
variable {scr : Nat × (Nat → Int32)} {t : List mg_S} {G : mg_G} {S : a_S} {A : a_A} {l : List Nat}
/-- the text is written on -/
def cWQ (G : mg_G) (l : List Nat) : mg_Q := fun o q G' => o = .inl none ∧ q = 0 ∧ cWr G' l ∧ mg_fr (fun a => a = 146 ∨ a = 147) G G'
theorem cWQ.s {K : mg_K} {d d' y : Nat} {As : List Value} {G0 G : mg_G} {l' : List Nat} (h : mg_m K d y As G (cWQ G l')) (hc : mg_fr (fun a => a = 146 ∨ a = 147) G0 G) (hd : d ≤ d') {Q : mg_Q} (hQ : ∀ G', cWr G' l' → mg_fr (fun a => a = 146 ∨ a = 147) G0 G' → Q (.inl none) 0 G') : mg_m K d' y As G Q := by
  refine mg_m_mono h hd ?_
  rintro o q G' ⟨rfl, rfl, h1, h2⟩
  exact hQ G' h1 (hc.tr h2)
end KC
