def rM9 (G G' : mg_G) : Prop := (∀ b, b ≠ 165 → b ≠ 166 → G'.1 b = G.1 b) ∧ G'.2.1 = G.2.1 ∧ G'.2.2.1 = G.2.2.1 ∧ G'.2.2.2.1 = G.2.2.2.1 ∧ ∀ b k, ¬ (b = 148 ∧ k = 31) → G'.2.2.2.2 b k = G.2.2.2.2 b k
theorem rM9.rf (G : mg_G) : rM9 G G := ⟨fun _ _ _ => rfl, rfl, rfl, rfl, fun _ _ _ => rfl⟩
theorem rM9.tr {G G' G'' : mg_G} (h : rM9 G G') (h2 : rM9 G' G'') : rM9 G G'' := ⟨fun b h1 h3 => (h2.1 b h1 h3).trans (h.1 b h1 h3), h2.2.1.trans h.2.1, h2.2.2.1.trans h.2.2.1, h2.2.2.2.1.trans h.2.2.2.1, fun b k hb => (h2.2.2.2.2 b k hb).trans (h.2.2.2.2 b k hb)⟩
theorem rM9.g {G G' : mg_G} {ord : Nat → Nat} {g : a_Gr} (h : rM9 G G') (hg : rGr G ord g) : rGr G' ord g := by
  refine ⟨(h.2.2.2.2 148 16 (by decide)).trans hg.1, fun b hb => ?_, fun k h2 hk => ?_⟩
  · rw [h.1 b (by omega) (by omega)]
    exact hg.2.1 b hb
  · rw [h.1 156 (by decide) (by decide), h.1 157 (by decide) (by decide), h.1 158 (by decide) (by decide)]
    exact hg.2.2 k h2 hk
section RM
variable {scr : Nat × (Nat → Int32)} {t : List mg_S} {G : mg_G} {A : a_A} {z : pP} {a b : Nat} {L : List pP}
end RM
