section RM
variable {scr : Nat × (Nat → Int32)} {t : List mg_S} {G : mg_G} {A : a_A}
end RM
def cF9 (G G' : mg_G) : Prop := mg_fr (fun a => a = 122 ∨ a = 131 ∨ a = 132) G G' ∧ G'.1 122 = G.1 122 ∧ G'.2.1 122 = G.2.1 122 ∧ G'.2.2.1 122 = G.2.2.1 122 ∧ G'.2.2.2.1 122 = G.2.2.2.1 122 ∧ ∀ k, k ≠ 11 → G'.2.2.2.2 122 k = G.2.2.2.2 122 k
theorem cF9.rf (G : mg_G) : cF9 G G := ⟨mg_fr.rf _ _, rfl, rfl, rfl, rfl, fun _ _ => rfl⟩
theorem cF9.tr {G G' G'' : mg_G} (h : cF9 G G') (h2 : cF9 G' G'') : cF9 G G'' := ⟨h.1.tr h2.1, h2.2.1.trans h.2.1, h2.2.2.1.trans h.2.2.1, h2.2.2.2.1.trans h.2.2.2.1, h2.2.2.2.2.1.trans h.2.2.2.2.1, fun k hk => (h2.2.2.2.2.2 k hk).trans (h.2.2.2.2.2 k hk)⟩
theorem cF9.g {G G' : mg_G} {nv : Nat} {g : a_Gr} (h : cF9 G G') (hg : cGr G 122 nv g) : cGr G' 122 nv g := by
  obtain ⟨h1, h2, h3, h4, h5⟩ := hg
  have e125 := (h.1 125 (by decide)).1
  have e126 := (h.1 126 (by decide)).1
  have e127 := (h.1 127 (by decide)).1
  refine ⟨(h.2.2.2.2.2 12 (by decide)).trans h1, (h.2.2.2.2.2 10 (by decide)).trans h2, fun k hk => (congrFun e125 k).trans (h3 k hk), fun k hk => ⟨(congrFun e126 k).trans (h4 k hk).1, (congrFun e127 k).trans (h4 k hk).2⟩, fun k h2 hk => ⟨(congrFun e126 k).trans (h5 k h2 hk).1, (congrFun e127 k).trans (h5 k h2 hk).2⟩⟩
theorem cF9.D {G G' : mg_G} {A : a_A} (h : cF9 G G') (hD : cDA G A) : cDA G' A := by
  obtain ⟨h1, h2, h3, h4, h5, h6, h7⟩ := hD
  exact ⟨h.g h1, h2, h3, fun f hf => ⟨(congrFun (h.1 129 (by decide)).1 f).trans (h4 f hf).1, (h4 f hf).2⟩, fun j hj => (congrFun (h.1 130 (by decide)).1 j).trans (h5 j hj), fun y hy r hr => by rw [(h.1 128 (by decide)).1]; exact h6 y hy r hr, (h.2.2.2.2.2 9 (by decide)).trans h7⟩
theorem cF9.w {G G' : mg_G} {A : a_A} (h : cF9 G G') (hD : cDw G A) : cDw G' A := by
  have e0 := (h.1 0 (by decide)).2.2.2.2
  rcases hD with q | ⟨q, q2⟩
  · exact Or.inl ((congrFun e0 7).trans q)
  · exact Or.inr ⟨(congrFun e0 7).trans q, h.D q2⟩
