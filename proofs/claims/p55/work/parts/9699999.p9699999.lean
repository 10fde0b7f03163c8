/-- what reading statements may change -/
def tF (G G' : mg_G) : Prop := (∀ b, b ≠ 149 → b < 155 ∨ 168 < b → G'.1 b = G.1 b) ∧ (∀ b, b ≠ 150 → b < 155 ∨ 168 < b → G'.2.1 b = G.2.1 b) ∧ (∀ j, 186 ≤ j → G'.1 149 j = G.1 149 j) ∧ (∀ j, 48 ≤ j → G'.2.1 150 j = G.2.1 150 j) ∧ G'.2.2.1 = G.2.2.1 ∧ G'.2.2.2.1 = G.2.2.2.1 ∧ ∀ b k, ¬ (b = 148 ∧ (k = 6 ∨ k = 7 ∨ k = 16 ∨ (22 ≤ k ∧ k ≤ 26) ∨ k = 28 ∨ k = 31)) → G'.2.2.2.2 b k = G.2.2.2.2 b k
theorem tF.rf (G : mg_G) : tF G G := ⟨fun _ _ _ => rfl, fun _ _ _ => rfl, fun _ _ => rfl, fun _ _ => rfl, rfl, rfl, fun _ _ _ => rfl⟩
theorem tF.tr {G G' G'' : mg_G} (h : tF G G') (h2 : tF G' G'') : tF G G'' :=
  ⟨fun b h1 h3 => (h2.1 b h1 h3).trans (h.1 b h1 h3), fun b h1 h3 => (h2.2.1 b h1 h3).trans (h.2.1 b h1 h3), fun j hj => (h2.2.2.1 j hj).trans (h.2.2.1 j hj), fun j hj => (h2.2.2.2.1 j hj).trans (h.2.2.2.1 j hj), h2.2.2.2.2.1.trans h.2.2.2.2.1, h2.2.2.2.2.2.1.trans h.2.2.2.2.2.1, fun b k hb => (h2.2.2.2.2.2.2 b k hb).trans (h.2.2.2.2.2.2 b k hb)⟩
theorem rPz.t {G G' : mg_G} (h : rPz G G') : tF G G' := ⟨h.1, h.2.1, h.2.2.1, h.2.2.2.1, h.2.2.2.2.1, h.2.2.2.2.2.1, fun b k hb => h.2.2.2.2.2.2 b k (by omega)⟩
theorem rRf.t {G G' : mg_G} (h : rRf G G') : tF G G' := ⟨fun b _ hb => (h.1 b hb).1, fun b _ hb => (h.1 b hb).2, fun j _ => congrFun (h.1 149 (by decide)).1 j, fun j _ => congrFun (h.1 150 (by decide)).2 j, h.2.1, h.2.2.1, h.2.2.2⟩
/-- a state is read into, the token at p -/
def tI (G : mg_G) (A : a_A) (l : List Nat) (p : Nat) : Prop := rI G A ∧ rIn G l ∧ rk G l p
/-- on the way, against G0 -/
def tM (G0 G : mg_G) (A : a_A) (l : List Nat) (p : Nat) : Prop := tF G0 G ∧ tI G A l p ∧ G.2.2.2.2 148 6 = G0.2.2.2.2 148 6 ∧ G.2.2.2.2 148 7 = G0.2.2.2.2 148 7
/-- the end: an error (0 is answered), or a state (1) -/
def rD (G0 : mg_G) (l : List Nat) (r : sR) : mg_Q := fun o q G => q = 0 ∧ tF G0 G ∧ match r with
  | .inl e => o = .inl (some (.int 0)) ∧ G.2.2.2.2 148 6 = .int e.1 ∧ G.2.2.2.2 148 7 = .int (Int32.ofNat e.2)
  | .inr x => o = .inl (some (.int 1)) ∧ tI G x.1 l x.2 ∧ G.2.2.2.2 148 6 = G0.2.2.2.2 148 6 ∧ G.2.2.2.2 148 7 = G0.2.2.2.2 148 7
section TM
variable {G0 G G' : mg_G} {A A' : a_A} {l : List Nat} {p q : Nat}
theorem tI.M (h : tI G A l p) : tM G G A l p := ⟨tF.rf G, h, rfl, rfl⟩
theorem tM.t (h : tM G0 G A l p) (hk : rk G' l q) (hf : rKf G G') : tM G0 G' A l q := ⟨h.1.tr hf.o.R.t, ⟨hf.o.R.I h.2.1.1, hf.n h.2.1.2.1, hk⟩, (hf.2.2.2.2 148 6 (by decide)).trans h.2.2.1, (hf.2.2.2.2 148 7 (by decide)).trans h.2.2.2⟩
theorem tM.x (h : tM G0 G A l p) (c : Int32) : rD G0 l (.inl (c, k_S l p)) (.inl (some (.int 0))) 0 (zX G c l p) := ⟨rfl, h.1.tr (zX_R G c l p).t, rfl, (mg_sF_ne _ _ (by decide)).trans (mg_sF_at _ _ _ _), mg_sF_at _ _ _ _⟩
theorem tM.Q (h : tM G0 G A l p) : rD G0 l (.inr (A, p)) (.inl (some (.int 1))) 0 G := ⟨rfl, h.1, rfl, h.2.1, h.2.2.1, h.2.2.2⟩
end TM
section RM
variable {scr : Nat × (Nat → Int32)} {t : List mg_S} {G : mg_G} {A : a_A} {l : List Nat} {p : Nat}
end RM
