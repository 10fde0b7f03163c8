/-- node k holds T -/
def a_nd (ts : List a_T) (k : Nat) (T : a_T) : Prop := (k = 0 ∧ T = a_zero) ∨ (k = 1 ∧ T = a_one) ∨ (2 ≤ k ∧ ts[k - 2]? = some T)
theorem a_nd_app {ts s : List a_T} {k : Nat} {T : a_T} (h : a_nd ts k T) : a_nd (ts ++ s) k T :=
  h.imp id (fun h => h.imp id (fun h => ⟨h.1, by rw [List.getElem?_append_left (List.getElem?_eq_some_iff.mp h.2).1]; exact h.2⟩))
/-- the reference's nodes are those of ts -/
def rN (G : mg_G) (ts : List a_T) : Prop := G.2.2.2.2 148 16 = .int (Int32.ofNat (ts.length + 2)) ∧ (∀ i T, ts[i]? = some T → ((G.2.1 155 (4 * (i + 2)), G.2.1 155 (4 * (i + 2) + 1), G.2.1 155 (4 * (i + 2) + 2), G.2.1 155 (4 * (i + 2) + 3)) : a_T) = T) ∧ ∃ sl : Nat → Nat, (∀ q, q < 4096 → G.1 160 q = Int32.ofNat (sl q)) ∧ a_hs 4096 2 a_slN ts sl
def rH (G : mg_G) (ord : Nat → Nat) (nv : Nat) : Prop := (∀ v, v < 6 → G.2.1 154 v = a_m v) ∧ (∀ j, j < nv → G.1 161 j = Int32.ofNat (ord j) ∧ ord j < 8) ∧ nv ≤ 8
def rC (G : mg_G) (ord : Nat → Nat) (nv : Nat) (ts : List a_T) (i : Nat) : Prop := ∃ T kl kh, ts[i]? = some T ∧ a_lev ord T 0 nv < nv ∧ G.1 156 (i + 2) = Int32.ofNat (ord (a_lev ord T 0 nv)) ∧ G.1 157 (i + 2) = Int32.ofNat kl ∧ a_nd ts kl (a_cf T (ord (a_lev ord T 0 nv)) false) ∧ G.1 158 (i + 2) = Int32.ofNat kh ∧ a_nd ts kh (a_cf T (ord (a_lev ord T 0 nv)) true)
def rFr (n : Nat) (G G' : mg_G) : Prop := (∀ b, b ≠ 156 → b ≠ 157 → b ≠ 158 → b ≠ 160 → G'.1 b = G.1 b) ∧ (∀ b i, b ≠ 160 → i < n → G'.1 b i = G.1 b i) ∧ (∀ b, b ≠ 155 → G'.2.1 b = G.2.1 b) ∧ G'.2.2.1 = G.2.2.1 ∧ G'.2.2.2.1 = G.2.2.2.1 ∧ (∀ b k, ¬ (b = 148 ∧ k = 16) → G'.2.2.2.2 b k = G.2.2.2.2 b k)
theorem rFr.rf (n : Nat) (G : mg_G) : rFr n G G := ⟨fun _ _ _ _ _ => rfl, fun _ _ _ _ => rfl, fun _ _ => rfl, rfl, rfl, fun _ _ _ => rfl⟩
theorem rFr.tr {n m : Nat} {G G' G'' : mg_G} (h : rFr n G G') (h2 : rFr m G' G'') (hn : n ≤ m) : rFr n G G'' :=
  ⟨fun b b1 b2 b3 b4 => (h2.1 b b1 b2 b3 b4).trans (h.1 b b1 b2 b3 b4), fun b i hb hi => (h2.2.1 b i hb (by omega)).trans (h.2.1 b i hb hi), fun b hb => (h2.2.2.1 b hb).trans (h.2.2.1 b hb), h2.2.2.2.1.trans h.2.2.2.1, h2.2.2.2.2.1.trans h.2.2.2.2.1, fun b k hb => (h2.2.2.2.2.2 b k hb).trans (h.2.2.2.2.2 b k hb)⟩
theorem rFr.i {n : Nat} {G : mg_G} {b i : Nat} {x : Int32} (hb : b = 156 ∨ b = 157 ∨ b = 158) (hi : n ≤ i) : rFr n G (mg_sI G b i x) :=
  ⟨fun c c1 c2 c3 c4 => mg_u2_ne _ _ _ (by rcases hb with rfl | rfl | rfl <;> assumption), fun c j _ hj => by show mg_u2 G.1 b i x c j = _; rw [mg_u2_at, if_neg (by omega)], fun _ _ => rfl, rfl, rfl, fun _ _ _ => rfl⟩
theorem rH.fr {n : Nat} {G G' : mg_G} {ord : Nat → Nat} {nv : Nat} (h : rH G ord nv) (hf : rFr n G G') : rH G' ord nv :=
  ⟨fun v hv => by rw [hf.2.2.1 154 (by decide)]; exact h.1 v hv, fun j hj => by rw [hf.1 161 (by decide) (by decide) (by decide) (by decide)]; exact h.2.1 j hj, h.2.2⟩
theorem rN.i {G : mg_G} {ts : List a_T} {b i : Nat} {x : Int32} (hb : b = 156 ∨ b = 157 ∨ b = 158) (h : rN G ts) : rN (mg_sI G b i x) ts := by
  obtain ⟨h1, h2, sl, h3, h4⟩ := h
  exact ⟨h1, h2, sl, fun q hq => (congrFun (mg_u2_ne G.1 i x (by rcases hb with rfl | rfl | rfl <;> decide : (160 : Nat) ≠ b)) q).trans (h3 q hq), h4⟩
