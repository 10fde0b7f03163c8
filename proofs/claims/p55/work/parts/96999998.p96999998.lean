theorem bS.t {G G' : mg_G} {c : Nat} {B : a_A} (h : bS G c B) (h0 : tF G G') (hc : 1 ≤ c) : bS G' c B :=
  ⟨h.1.tr h.2 (fun j _ => h0.2.2.1 _ (by omega)) (fun j _ => h0.2.2.2.1 _ (by omega)), h.2⟩
/-- what stands beside block 0: what can be undone, what is saved, what was written -/
def rB9 (G : mg_G) (U : List a_A) (V : Nat → Option a_A) (w : List Nat) : Prop := (∀ v, v < 6 → G.2.1 154 v = a_m v) ∧ rUn G U ∧ rSv G V ∧ rWr G w
section RB
variable {G G' : mg_G} {U : List a_A} {V : Nat → Option a_A} {w : List Nat}
theorem rB9.t (h : rB9 G U V w) (f : tF G G') : rB9 G' U V w := by
  obtain ⟨h1, h3, h4, h8⟩ := h
  obtain ⟨z1, z2, z3, z4, z5, z6, z7⟩ := id f
  exact ⟨fun v hv => by rw [z2 154 (by decide) (by decide)]; exact h1 v hv, ⟨(z7 148 3 (by decide)).trans h3.1, h3.2.1, fun i B hi => (h3.2.2 i B hi).t f (by omega)⟩, fun s hs => ⟨by rw [z1 151 (by decide) (by decide)]; exact (h4 s hs).1, fun B hB => ((h4 s hs).2 B hB).t f (by omega)⟩, ⟨(z7 148 9 (by decide)).trans h8.1, h8.2.1, fun i c hi => by rw [z1 153 (by decide) (by decide)]; exact h8.2.2 i c hi⟩⟩
theorem rB9.s (h : rB9 G U V w) (k : Nat) (v : Value) (h3 : k ≠ 3) (h9 : k ≠ 9) : rB9 (mg_sF G 148 k v) U V w :=
  ⟨h.1, ⟨(mg_sF_ne _ _ (by omega)).trans h.2.1.1, h.2.1.2.1, fun i B hi => (h.2.1.2.2 i B hi).sF _ _ _⟩, fun s hs => ⟨(h.2.2.1 s hs).1, fun B hB => ((h.2.2.1 s hs).2 B hB).sF _ _ _⟩, ⟨(mg_sF_ne _ _ (by omega)).trans h.2.2.2.1, h.2.2.2.2.1, h.2.2.2.2.2⟩⟩
theorem rB9.T (h : rB9 G U V w) {A : a_A} (hA : bS G 0 A) {l : List Nat} (hN : rIn G l) {c q : Int32} (h6 : G.2.2.2.2 148 6 = .int c) (h7 : G.2.2.2.2 148 7 = .int q) : rT G (A, U, V, l, c, q, w) := ⟨h.1, hA, h.2.1, h.2.2.1, hN, ⟨h6, h7⟩, h.2.2.2⟩
theorem rIn.n0 (h5 : G.2.2.2.2 148 5 = .int (Int32.ofNat 0)) : rIn G [] := ⟨h5, by decide, fun i c h => absurd h (by simp)⟩
end RB
section RM
variable {scr : Nat × (Nat → Int32)} {t : List mg_S} {G : mg_G} {S : a_S}
end RM
section KC
variable {scr : Nat × (Nat → Int32)} {t : List mg_S} {G : mg_G} {S : a_S}
/-- behind a reading: the input, the error -/
theorem cT.rd {G' : mg_G} (h : cT G S) (f : mg_fr (fun a => a = 1 ∨ (3 ≤ a ∧ a ≤ 29)) G G') {l : List Nat} (h1 : cIn G' l) {c q : Int32} (h6 : G'.2.2.2.2 3 6 = .int c) (h7 : G'.2.2.2.2 3 7 = .int q) : cT G' (sA S, sU S, sV S, l, c, q, sW S) := by
  obtain ⟨g1, g2, g3, g4, g5, g6, g7, g8⟩ := h
  exact ⟨g1.fr f (fun a ha => by unfold kQ at ha; omega), g2, g3.fr f (fun a ha => by omega), g4.fr f (fun a ha => by omega), h1, ⟨h6, h7⟩, g7.fr f (by decide) (by decide), g8.fr f (by decide) (fun a ha => by unfold kG at ha; omega)⟩
theorem cIn.n0 (h5 : G.2.2.2.2 1 1 = .int (Int32.ofNat 0)) : cIn G [] := ⟨h5, by decide, fun i c h => absurd h (by simp)⟩
end KC
