theorem gM_ne (G : mg_G) {z : Nat} (f : Nat → Int32) {b : Nat} (h : b ≠ z) : (gM G z f).1 b = G.1 b := mg_u_ne G.1 f h
theorem gM_at (G : mg_G) (z : Nat) (f : Nat → Int32) (i : Nat) : (gM G z f).1 z i = f i := congrFun (mg_u_eq G.1 z f) i
theorem gM_na (G : mg_G) {z : Nat} (f : Nat → Int32) {b : Nat} (h : b ≠ z) (i : Nat) : (gM G z f).1 b i = G.1 b i := congrFun (mg_u_ne G.1 f h) i
theorem mg_sI_nb (G : mg_G) {a : Nat} (k : Nat) (x : Int32) {b : Nat} (h : b ≠ a) : (mg_sI G a k x).1 b = G.1 b := mg_u2_ne G.1 k x h
section RM
variable {scr : Nat × (Nat → Int32)} {t : List mg_S} {G : mg_G} {A : a_A} {S : a_S}
/-- what building by some order changes -/
def rVx (G G' : mg_G) : Prop := (∀ b, b < 155 ∨ 161 < b → G'.1 b = G.1 b ∧ G'.2.1 b = G.2.1 b) ∧ G'.2.2.1 = G.2.2.1 ∧ G'.2.2.2.1 = G.2.2.2.1 ∧ ∀ b k, ¬ (b = 148 ∧ k = 16) → G'.2.2.2.2 b k = G.2.2.2.2 b k
theorem rVx.rf (G : mg_G) : rVx G G := ⟨fun _ _ => ⟨rfl, rfl⟩, rfl, rfl, fun _ _ _ => rfl⟩
theorem rVx.tr {G G' G'' : mg_G} (h : rVx G G') (h2 : rVx G' G'') : rVx G G'' :=
  ⟨fun b hb => ⟨(h2.1 b hb).1.trans (h.1 b hb).1, (h2.1 b hb).2.trans (h.1 b hb).2⟩, h2.2.1.trans h.2.1, h2.2.2.1.trans h.2.2.1, fun b k hb => (h2.2.2.2 b k hb).trans (h.2.2.2 b k hb)⟩
/-- block 0, what a text's reading uses, and what building changes -/
def rPz (G G' : mg_G) : Prop := (∀ b, b ≠ 149 → b < 155 ∨ 168 < b → G'.1 b = G.1 b) ∧ (∀ b, b ≠ 150 → b < 155 ∨ 168 < b → G'.2.1 b = G.2.1 b) ∧ (∀ j, 186 ≤ j → G'.1 149 j = G.1 149 j) ∧ (∀ j, 48 ≤ j → G'.2.1 150 j = G.2.1 150 j) ∧ G'.2.2.1 = G.2.2.1 ∧ G'.2.2.2.1 = G.2.2.2.1 ∧ ∀ b k, ¬ (b = 148 ∧ (k = 16 ∨ k = 28 ∨ k = 31)) → G'.2.2.2.2 b k = G.2.2.2.2 b k
theorem rPz.rf (G : mg_G) : rPz G G := ⟨fun _ _ _ => rfl, fun _ _ _ => rfl, fun _ _ => rfl, fun _ _ => rfl, rfl, rfl, fun _ _ _ => rfl⟩
theorem rPz.tr {G G' G'' : mg_G} (h : rPz G G') (h2 : rPz G' G'') : rPz G G'' :=
  ⟨fun b h3 h4 => (h2.1 b h3 h4).trans (h.1 b h3 h4), fun b h3 h4 => (h2.2.1 b h3 h4).trans (h.2.1 b h3 h4), fun b h3 => (h2.2.2.1 b h3).trans (h.2.2.1 b h3), fun b h3 => (h2.2.2.2.1 b h3).trans (h.2.2.2.1 b h3), h2.2.2.2.2.1.trans h.2.2.2.2.1, h2.2.2.2.2.2.1.trans h.2.2.2.2.2.1, fun b k h3 => (h2.2.2.2.2.2.2 b k h3).trans (h.2.2.2.2.2.2 b k h3)⟩
theorem rI.b {G : mg_G} {A : a_A} (h : rI G A) : bS G 0 A := ⟨h.2.1, h.2.2⟩
end RM
