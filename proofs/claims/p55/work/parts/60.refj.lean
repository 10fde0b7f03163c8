/-- the tables of the inner nodes of the first f functions -/
def a_all (ord : Nat → Nat) (nv : Nat) (tb : Nat → a_T) : Nat → List a_T
  | 0 => []
  | f + 1 => a_vis ord nv (nv + 1) (tb f) (a_all ord nv tb f)
theorem a_all_nd (ord : Nat → Nat) (nv : Nat) (tb : Nat → a_T) : ∀ f, (a_all ord nv tb f).Nodup
  | 0 => List.nodup_nil
  | f + 1 => a_vis_nd ord nv _ _ _ (a_all_nd ord nv tb f)
def rW (G G' : mg_G) : Prop := (∀ b, b ≠ 156 → b ≠ 157 → b ≠ 158 → b ≠ 159 → b ≠ 160 → G'.1 b = G.1 b) ∧ (∀ b, b ≠ 155 → G'.2.1 b = G.2.1 b) ∧ G'.2.2.1 = G.2.2.1 ∧ G'.2.2.2.1 = G.2.2.2.1 ∧ (∀ b k, ¬ (b = 148 ∧ k = 16) → G'.2.2.2.2 b k = G.2.2.2.2 b k)
theorem rW.fr {n : Nat} {G G' G'' : mg_G} (h : rW G G') (h2 : rFr n G' G'') : rW G G'' :=
  ⟨fun b b1 b2 b3 b4 b5 => (h2.1 b b1 b2 b3 b5).trans (h.1 b b1 b2 b3 b4 b5), fun b hb => (h2.2.2.1 b hb).trans (h.2.1 b hb), h2.2.2.2.1.trans h.2.2.1, h2.2.2.2.2.1.trans h.2.2.2.1, fun b k hb => (h2.2.2.2.2.2 b k hb).trans (h.2.2.2.2 b k hb)⟩
theorem rW.rf (G : mg_G) : rW G G := ⟨fun _ _ _ _ _ _ => rfl, fun _ _ => rfl, rfl, rfl, fun _ _ _ => rfl⟩
theorem rW.i {G G' : mg_G} (h : rW G G') (f : Nat) (x : Int32) : rW G (mg_sI G' 159 f x) :=
  ⟨fun b b1 b2 b3 b4 b5 => (show mg_u2 G'.1 159 f x b = G.1 b from (mg_u2_ne _ _ _ b4).trans (h.1 b b1 b2 b3 b4 b5)), h.2⟩
/-- what is there behind the first f functions -/
def rAll (G : mg_G) (ord : Nat → Nat) (nv f : Nat) (G' : mg_G) : Prop := rW G G' ∧ rN G' (a_all ord nv (a_tb G) f) ∧ (∀ g, g < f → ∃ r, G'.1 159 g = Int32.ofNat r ∧ a_nd (a_all ord nv (a_tb G) f) r (a_tb G g)) ∧ (∀ i, i < (a_all ord nv (a_tb G) f).length → rC G' ord nv (a_all ord nv (a_tb G) f) i) ∧ (∀ b, b = 156 ∨ b = 157 ∨ b = 158 → G'.1 b 0 = Int32.ofInt (-1) ∧ G'.1 b 1 = Int32.ofInt (-1))
