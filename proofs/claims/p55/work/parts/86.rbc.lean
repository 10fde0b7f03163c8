abbrev a_S : Type := a_A × List a_A × (Nat → Option a_A) × List Nat × Int32 × Int32 × List Nat
abbrev sA (S : a_S) : a_A := S.1
abbrev sU (S : a_S) : List a_A := S.2.1
abbrev sV (S : a_S) : Nat → Option a_A := S.2.2.1
abbrev sIn (S : a_S) : List Nat := S.2.2.2.1
abbrev sC (S : a_S) : Int32 := S.2.2.2.2.1
abbrev sP (S : a_S) : Int32 := S.2.2.2.2.2.1
abbrev sW (S : a_S) : List Nat := S.2.2.2.2.2.2
def rSv (G : mg_G) (V : Nat → Option a_A) : Prop := ∀ s, s < 2 → G.1 151 s = b2 (V s).isSome ∧ ∀ B, V s = some B → bS G (9 + s) B
def rIn (G : mg_G) (l : List Nat) : Prop := G.2.2.2.2 148 5 = .int (Int32.ofNat l.length) ∧ l.length ≤ 600 ∧ ∀ i c, l[i]? = some c → G.1 152 i = Int32.ofNat c ∧ c < 256
def rWr (G : mg_G) (l : List Nat) : Prop := G.2.2.2.2 148 9 = .int (Int32.ofNat l.length) ∧ l.length ≤ 1600 ∧ ∀ i c, l[i]? = some c → G.1 153 i = Int32.ofNat c ∧ c < 128
def rT (G : mg_G) (S : a_S) : Prop := (∀ v, v < 6 → G.2.1 154 v = a_m v) ∧ bS G 0 (sA S) ∧ rUn G (sU S) ∧ rSv G (sV S) ∧ rIn G (sIn S) ∧ (G.2.2.2.2 148 6 = .int (sC S) ∧ G.2.2.2.2 148 7 = .int (sP S)) ∧ rWr G (sW S)
theorem rT.I {G : mg_G} {S : a_S} (h : rT G S) : rI G (sA S) := ⟨h.1, h.2.1.1, h.2.1.2⟩
/-- nothing but the reference's places is changed -/
def rF (G G' : mg_G) : Prop := ∀ b, b < 148 ∨ 168 < b → G'.1 b = G.1 b ∧ G'.2.1 b = G.2.1 b ∧ G'.2.2.1 b = G.2.2.1 b ∧ G'.2.2.2.1 b = G.2.2.2.1 b ∧ G'.2.2.2.2 b = G.2.2.2.2 b
theorem rF.rf (G : mg_G) : rF G G := fun _ _ => ⟨rfl, rfl, rfl, rfl, rfl⟩
theorem rF.tr {G G' G'' : mg_G} (h : rF G G') (h2 : rF G' G'') : rF G G'' := fun b hb => by
  obtain ⟨a1, a2, a3, a4, a5⟩ := h b hb
  obtain ⟨b1, b2, b3, b4, b5⟩ := h2 b hb
  exact ⟨b1.trans a1, b2.trans a2, b3.trans a3, b4.trans a4, b5.trans a5⟩
theorem rF.s (G : mg_G) (k : Nat) (v : Value) : rF G (mg_sF G 148 k v) := fun b hb => ⟨rfl, rfl, rfl, rfl, mg_u2_ne _ _ _ (by omega)⟩
theorem rF.i (G : mg_G) {a : Nat} (k : Nat) (v : Int32) (ha : 148 ≤ a ∧ a ≤ 168) : rF G (mg_sI G a k v) := fun b hb => ⟨mg_u2_ne _ _ _ (by omega), rfl, rfl, rfl, rfl⟩
/-- only block 0 is changed -/
def r0 (G G' : mg_G) : Prop := rY G G' ∧ (∀ j, 186 ≤ j → G'.1 149 j = G.1 149 j) ∧ (∀ j, 48 ≤ j → G'.2.1 150 j = G.2.1 150 j) ∧ G'.2.2.2.2 148 3 = G.2.2.2.2 148 3
theorem r0.rf (G : mg_G) : r0 G G := ⟨rY.rf G, fun _ _ => rfl, fun _ _ => rfl, rfl⟩
theorem r0.tr {G G' G'' : mg_G} (h : r0 G G') (h2 : r0 G' G'') : r0 G G'' := ⟨h.1.tr h2.1, fun j hj => (h2.2.1 j hj).trans (h.2.1 j hj), fun j hj => (h2.2.2.1 j hj).trans (h.2.2.1 j hj), h2.2.2.2.trans h.2.2.2⟩
theorem r0.i (G : mg_G) {k : Nat} (x : Int32) (hk : k < 186) : r0 G (mg_sI G 149 k x) := ⟨rY.i G k x, fun j hj => mg_sI_ne _ _ _ _ (by omega), fun _ _ => rfl, rfl⟩
theorem r0.w (G : mg_G) {r n : Nat} {g : Nat → Int64} (hr : 4 * r + n ≤ 48) : r0 G (cW G 150 r n g) := ⟨⟨fun _ _ => rfl, fun c hc => cW_ne _ _ _ _ _ _ hc, rfl, rfl, fun _ _ _ => rfl⟩, fun _ _ => rfl, fun j hj => cW_at _ _ _ _ _ _ (by omega), rfl⟩
theorem bA0 {G : mg_G} {A : a_A} (h1 : G.1 149 0 = Int32.ofNat (aV A)) (h2 : G.1 149 1 = Int32.ofNat (aF A)) (h3 : ∀ j, j < aV A → G.1 149 (2 + j) = Int32.ofNat (aD A j)) (h4 : ∀ v, v < aV A → G.1 149 (10 + v) = aC A v) (h5 : ∀ v, v < aV A → G.1 149 (18 + v) = aP A v) (h6 : ∀ v, v < aV A → rNm G (26 + 8 * v) (aVN A v)) (h7 : ∀ f, f < aF A → rNm G (90 + 8 * f) (aFN A f)) (h8 : ∀ f, f < aF A → a_tb G f = aT A f) : bA G (186 * 0) (48 * 0) A := by
  show bA G 0 0 A
  exact ⟨h1, h2, fun j hj => by rw [Nat.zero_add]; exact h3 j hj, fun j hj => by rw [Nat.zero_add]; exact h4 j hj, fun j hj => by rw [Nat.zero_add]; exact h5 j hj, fun j hj => by rw [Nat.zero_add]; exact h6 j hj, fun j hj => by rw [Nat.zero_add]; exact h7 j hj, fun j hj => by rw [Nat.zero_add]; exact h8 j hj⟩
theorem a_per_of {nv : Nat} {T x y z : a_T} (F : Bool → Bool → Bool → Bool) (h : ∀ k, k < 256 → a_at T k = F (a_at x k) (a_at y k) (a_at z k)) (hx : a_per nv x) (hy : a_per nv y) (hz : a_per nv z) : a_per nv T := fun v hv hn => by
  have q : ∀ U, a_per nv U → ∀ k, k < 256 → ∀ b, a_at U (a_sb k v b) = a_at U k := fun U hU k hk b => by rw [← a_cf_at U v hv b k hk, a_dp_no hv (hU v hv hn)]
  refine a_dp_of (a_at_ext fun k hk => ?_)
  rw [a_cf_at _ v hv _ k hk, a_cf_at _ v hv _ k hk, h _ (a_sb_lt' v hv k hk _), h _ (a_sb_lt' v hv k hk _), q x hx k hk, q y hy k hk, q z hz k hk, q x hx k hk, q y hy k hk, q z hz k hk]
theorem a_neg1 (j : Nat) (hj : j < 64) : (-1 : Int64).toBitVec.getLsbD j = true := by
  rw [show (-1 : Int64).toBitVec = BitVec.allOnes 64 from rfl, BitVec.getLsbD_allOnes, decide_eq_true hj]
theorem a_at4 (f : Nat → Int64) (k : Nat) (hk : k < 256) : a_at (a_tb4 f) k = (f (k / 64)).toBitVec.getLsbD (k % 64) := by
  unfold a_at
  rw [a_wd4 f _ (by omega)]
theorem a_per_op {nv : Nat} {x y : a_T} (op : Int32) (hx : a_per nv x) (hy : a_per nv y) : a_per nv (a_op op x y) := by
  unfold a_op a_comb
  have hm : ∀ k, k < 256 → k % 64 < 64 := fun k _ => Nat.mod_lt _ (by decide)
  by_cases h0 : op = 0
  · simp only [if_pos h0]
    exact a_per_of (fun a b _ => a && b) (fun k hk => by rw [a_at4 _ k hk, Int64.toBitVec_and, BitVec.getLsbD_and]; rfl) hx hy hx
  simp only [if_neg h0]
  by_cases h1 : op = 1
  · simp only [if_pos h1]
    exact a_per_of (fun a b _ => a || b) (fun k hk => by rw [a_at4 _ k hk, Int64.toBitVec_or, BitVec.getLsbD_or]; rfl) hx hy hx
  simp only [if_neg h1]
  by_cases h2 : op = 2
  · simp only [if_pos h2]
    exact a_per_of (fun a b _ => a ^^ b) (fun k hk => by rw [a_at4 _ k hk, Int64.toBitVec_xor, BitVec.getLsbD_xor]; rfl) hx hy hx
  simp only [if_neg h2]
  by_cases h3 : op = 3
  · simp only [if_pos h3]
    exact a_per_of (fun a b _ => (a ^^ true) || b) (fun k hk => by rw [a_at4 _ k hk, Int64.toBitVec_or, BitVec.getLsbD_or, Int64.toBitVec_xor, BitVec.getLsbD_xor, a_neg1 _ (hm k hk)]; rfl) hx hy hx
  simp only [if_neg h3]
  by_cases h4 : op = 4
  · simp only [if_pos h4]
    exact a_per_of (fun a b _ => (a ^^ b) ^^ true) (fun k hk => by rw [a_at4 _ k hk, Int64.toBitVec_xor, BitVec.getLsbD_xor, Int64.toBitVec_xor, BitVec.getLsbD_xor, a_neg1 _ (hm k hk)]; rfl) hx hy hx
  simp only [if_neg h4]
  exact a_per_of (fun a b _ => a && (b ^^ true)) (fun k hk => by rw [a_at4 _ k hk, Int64.toBitVec_and, BitVec.getLsbD_and, Int64.toBitVec_xor, BitVec.getLsbD_xor, a_neg1 _ (hm k hk)]; rfl) hx hy hx
theorem a_per_not {nv : Nat} {x : a_T} (hx : a_per nv x) : a_per nv (a_not x) :=
  a_per_of (fun a _ _ => a ^^ true) (fun k hk => by unfold a_not; rw [a_at4 _ k hk, Int64.toBitVec_xor, BitVec.getLsbD_xor, a_neg1 _ (Nat.mod_lt _ (by decide))]; rfl) hx hx hx
theorem a_per_sel {nv : Nat} {c x y : a_T} (hc : a_per nv c) (hx : a_per nv x) (hy : a_per nv y) : a_per nv (a_sel c x y) :=
  a_per_of (fun c a b => (c && a) || ((c ^^ true) && b)) (fun k hk => by unfold a_sel; rw [a_at4 _ k hk, Int64.toBitVec_or, BitVec.getLsbD_or, Int64.toBitVec_and, BitVec.getLsbD_and, Int64.toBitVec_and, BitVec.getLsbD_and, Int64.toBitVec_xor, BitVec.getLsbD_xor, a_neg1 _ (Nat.mod_lt _ (by decide))]; rfl) hc hx hy
def addF (A : a_A) (n : List Nat) (T : a_T) : a_A := (aV A, aF A + 1, aD A, aC A, aP A, aVN A, mg_u (aFN A) (aF A) n, mg_u (aT A) (aF A) T)
theorem addF_W {A : a_A} (hA : aW A) (h : aF A < 12) {n : List Nat} (hn : a_nm7 n) {T : a_T} (hT : a_per (aV A) T) : aW (addF A n T) := by
  obtain ⟨h1, h2, h3, h4, h5, h6, h7⟩ := hA
  refine ⟨h1, h2, by show aF A + 1 ≤ 12; omega, fun f hf => ?_, h5, fun f hf => ?_, h7⟩
  · show a_per (aV A) (mg_u (aT A) (aF A) T f)
    by_cases e : f = aF A
    · subst e
      rw [mg_u_eq]
      exact hT
    · rw [mg_u_ne _ _ e]
      have hf : f < aF A + 1 := hf
      exact h4 f (by omega)
  · show a_nm7 (mg_u (aFN A) (aF A) n f)
    by_cases e : f = aF A
    · subst e
      rw [mg_u_eq]
      exact hn
    · rw [mg_u_ne _ _ e]
      have hf : f < aF A + 1 := hf
      exact h6 f (by omega)
def sAdd (S : a_S) (T : a_T) : a_S := (addF (sA S) [] T, a_push (sU S) (sA S), S.2.2)
section RM
variable {scr : Nat × (Nat → Int32)} {t : List mg_S} {G : mg_G} {S : a_S}
end RM
