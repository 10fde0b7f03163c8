theorem bA.tr {G G' : mg_G} {p q p' q' : Nat} {B : a_A} (h : bA G p q B) (hW : aW B) (e : ∀ j, j < 186 → G'.1 149 (p' + j) = G.1 149 (p + j)) (e2 : ∀ j, j < 48 → G'.2.1 150 (q' + j) = G.2.1 150 (q + j)) : bA G' p' q' B := by
  obtain ⟨h1, h2, h3, h4, h5, h6, h7, h8⟩ := h
  have hv := hW.2.1.2.2.2
  have hf := hW.2.2.1
  have E : ∀ (x y : Nat), y < 186 → x = y → G'.1 149 (p' + x) = G.1 149 (p + x) := fun x y hy hx => e x (by omega)
  have nm : ∀ (c : Nat) (l : List Nat), c + 8 ≤ 186 → l.length ≤ 7 → rNm G (p + c) l → rNm G' (p' + c) l := fun c l hc hl hn => by
    refine ⟨(e c (by omega)).trans hn.1, fun i x hi => ?_⟩
    have hi2 := (List.getElem?_eq_some_iff.mp hi).1
    have := e (c + 1 + i) (by omega)
    rw [← Nat.add_assoc, ← Nat.add_assoc, ← Nat.add_assoc, ← Nat.add_assoc] at this
    exact this.trans (hn.2 i x hi)
  refine ⟨(e 0 (by decide)).trans h1, (e 1 (by decide)).trans h2, fun j hj => ?_, fun j hj => ?_, fun j hj => ?_, fun j hj => ?_, fun j hj => ?_, fun j hj => ?_⟩
  · rw [Nat.add_assoc, e _ (by omega), ← Nat.add_assoc]
    exact h3 j hj
  · rw [Nat.add_assoc, e _ (by omega), ← Nat.add_assoc]
    exact h4 j hj
  · rw [Nat.add_assoc, e _ (by omega), ← Nat.add_assoc]
    exact h5 j hj
  · rw [Nat.add_assoc]
    refine nm _ _ (by omega) (hW.2.2.2.2.1 j hj).1.2 ?_
    rw [← Nat.add_assoc]
    exact h6 j hj
  · rw [Nat.add_assoc]
    refine nm _ _ (by omega) (hW.2.2.2.2.2.1 j hj).2 ?_
    rw [← Nat.add_assoc]
    exact h7 j hj
  · rw [Nat.add_assoc q' (4 * j) 1, Nat.add_assoc q' (4 * j) 2, Nat.add_assoc q' (4 * j) 3, e2 _ (by omega), e2 _ (by omega), e2 _ (by omega), e2 _ (by omega), ← Nat.add_assoc, ← Nat.add_assoc, ← Nat.add_assoc]
    exact h8 j hj
theorem mg_sF_at (G : mg_G) (a k : Nat) (v : Value) : (mg_sF G a k v).2.2.2.2 a k = v := (mg_u2_at G.2.2.2.2 a k v a k).trans (if_pos ⟨rfl, rfl⟩)
theorem mg_sF_ne (G : mg_G) {a k b j : Nat} (v : Value) (h : ¬ (b = a ∧ j = k)) : (mg_sF G a k v).2.2.2.2 b j = G.2.2.2.2 b j := (mg_u2_at G.2.2.2.2 a k v b j).trans (if_neg h)
/-- block k holds B -/
def bS (G : mg_G) (k : Nat) (B : a_A) : Prop := bA G (186 * k) (48 * k) B ∧ aW B
/-- only blocks and the number of changes are written -/
def rY (G G' : mg_G) : Prop := (∀ b, b ≠ 149 → G'.1 b = G.1 b) ∧ (∀ b, b ≠ 150 → G'.2.1 b = G.2.1 b) ∧ G'.2.2.1 = G.2.2.1 ∧ G'.2.2.2.1 = G.2.2.2.1 ∧ ∀ b k, ¬ (b = 148 ∧ k = 3) → G'.2.2.2.2 b k = G.2.2.2.2 b k
theorem rY.rf (G : mg_G) : rY G G := ⟨fun _ _ => rfl, fun _ _ => rfl, rfl, rfl, fun _ _ _ => rfl⟩
theorem rY.tr {G G' G'' : mg_G} (h : rY G G') (h2 : rY G' G'') : rY G G'' :=
  ⟨fun b hb => (h2.1 b hb).trans (h.1 b hb), fun b hb => (h2.2.1 b hb).trans (h.2.1 b hb), h2.2.2.1.trans h.2.2.1, h2.2.2.2.1.trans h.2.2.2.1, fun b k hb => (h2.2.2.2.2 b k hb).trans (h.2.2.2.2 b k hb)⟩
theorem rY.s3 (G : mg_G) (v : Value) : rY G (mg_sF G 148 3 v) := ⟨fun _ _ => rfl, fun _ _ => rfl, rfl, rfl, fun b k hb => (mg_u2_at _ _ _ _ _ _).trans (if_neg hb)⟩
theorem rY.i (G : mg_G) (k : Nat) (x : Int32) : rY G (mg_sI G 149 k x) := ⟨fun c hc => mg_u2_ne _ _ _ hc, fun _ _ => rfl, rfl, rfl, fun _ _ _ => rfl⟩
theorem bS.sF {G : mg_G} {c : Nat} {B : a_A} (h : bS G c B) (a k : Nat) (v : Value) : bS (mg_sF G a k v) c B := ⟨h.1.c rfl rfl, h.2⟩
/-- the states that undo takes back to, oldest first -/
def rUn (G : mg_G) (U : List a_A) : Prop := G.2.2.2.2 148 3 = .int (Int32.ofNat U.length) ∧ U.length ≤ 8 ∧ ∀ i B, U[i]? = some B → bS G (i + 1) B
def a_push (U : List a_A) (B : a_A) : List a_A := (if U.length = 8 then U.tail else U) ++ [B]
section RM
variable {scr : Nat × (Nat → Int32)} {t : List mg_S} {G : mg_G}
end RM
