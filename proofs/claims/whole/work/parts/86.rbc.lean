/-! REFERENCE: all that is kept; a new function -/
abbrev a_S : Type := a_A × List a_A × (Nat → Option a_A) × List Nat × Int32 × Int32 × List Nat
abbrev sA (S : a_S) : a_A := S.1
abbrev sU (S : a_S) : List a_A := S.2.1
abbrev sV (S : a_S) : Nat → Option a_A := S.2.2.1
abbrev sIn (S : a_S) : List Nat := S.2.2.2.1
abbrev sC (S : a_S) : Int32 := S.2.2.2.2.1
abbrev sP (S : a_S) : Int32 := S.2.2.2.2.2.1
abbrev sW (S : a_S) : List Nat := S.2.2.2.2.2.2
def rSv (G : mg_G) (V : Nat → Option a_A) : Prop := ∀ s, s < 2 → G.1 151 s = b2 (V s).isSome ∧ ∀ B, V s = some B → bS G (9 + s) B
def rIn (G : mg_G) (l : List Nat) : Prop := G.2.2.2.2 148 5 = .int (Int32.ofNat l.length) ∧ l.length ≤ 600 ∧ ∀ i c, l[i]? = some c → G.1 152 i = Int32.ofNat c ∧ c < 256
def rWr (G : mg_G) (l : List Nat) : Prop := G.2.2.2.2 148 9 = .int (Int32.ofNat l.length) ∧ l.length ≤ 1600 ∧ ∀ i c, l[i]? = some c → G.1 153 i = Int32.ofNat c ∧ c < 128
def rT (G : mg_G) (S : a_S) : Prop := (∀ v, v < 6 → G.2.1 154 v = a_m v) ∧ bS G 0 (sA S) ∧ rUn G (sU S) ∧ rSv G (sV S) ∧ rIn G (sIn S) ∧ (G.2.2.2.2 148 6 = .int (sC S) ∧ G.2.2.2.2 148 7 = .int (sP S)) ∧ rWr G (sW S)
theorem rT.I {G : mg_G} {S : a_S} (h : rT G S) : rI G (sA S) := ⟨h.1, h.2.1.1, h.2.1.2⟩
/-- nothing but the reference's places is changed -/
def rF (G G' : mg_G) : Prop := ∀ b, b < 148 ∨ 168 < b → G'.1 b = G.1 b ∧ G'.2.1 b = G.2.1 b ∧ G'.2.2.1 b = G.2.2.1 b ∧ G'.2.2.2.1 b = G.2.2.2.1 b ∧ G'.2.2.2.2 b = G.2.2.2.2 b
theorem rF.rf (G : mg_G) : rF G G := fun _ _ => ⟨rfl, rfl, rfl, rfl, rfl⟩
theorem rF.tr {G G' G'' : mg_G} (h : rF G G') (h2 : rF G' G'') : rF G G'' := fun b hb => by
  obtain ⟨a1, a2, a3, a4, a5⟩ := h b hb
  obtain ⟨b1, b2, b3, b4, b5⟩ := h2 b hb
  exact ⟨b1.trans a1, b2.trans a2, b3.trans a3, b4.trans a4, b5.trans a5⟩
theorem rX.F {G G' : mg_G} (h : rX G G') : rF G G' := fun b hb => ⟨(h.1 b (by omega)).1, (h.1 b (by omega)).2, congrFun h.2.1 b, congrFun h.2.2.1 b, funext fun k => h.2.2.2 b k (by omega)⟩
theorem rY.F {G G' : mg_G} (h : rY G G') : rF G G' := fun b hb => ⟨h.1 b (by omega), h.2.1 b (by omega), congrFun h.2.2.1 b, congrFun h.2.2.2.1 b, funext fun k => h.2.2.2.2 b k (by omega)⟩
theorem rF.s (G : mg_G) (k : Nat) (v : Value) : rF G (mg_sF G 148 k v) := fun b hb => ⟨rfl, rfl, rfl, rfl, mg_u2_ne _ _ _ (by omega)⟩
theorem rF.i (G : mg_G) {a : Nat} (k : Nat) (v : Int32) (ha : 148 ≤ a ∧ a ≤ 168) : rF G (mg_sI G a k v) := fun b hb => ⟨mg_u2_ne _ _ _ (by omega), rfl, rfl, rfl, rfl⟩
theorem rUn.X {G G' : mg_G} {U : List a_A} (h : rUn G U) (hX : rX G G') : rUn G' U := ⟨(hX.2.2.2 148 3 (by omega)).trans h.1, h.2.1, fun i B hi => (h.2.2 i B hi).X hX⟩
theorem rSv.X {G G' : mg_G} {V : Nat → Option a_A} (h : rSv G V) (hX : rX G G') : rSv G' V := fun s hs => ⟨by rw [(hX.1 151 (by omega)).1]; exact (h s hs).1, fun B hB => ((h s hs).2 B hB).X hX⟩
theorem rT.X {G G' : mg_G} {S : a_S} (h : rT G S) (hX : rX G G') : rT G' S := by
  obtain ⟨h1, h2, h3, h4, h5, ⟨h6, h7⟩, h8⟩ := h
  refine ⟨fun v hv => by rw [(hX.1 154 (by omega)).2]; exact h1 v hv, h2.X hX, h3.X hX, h4.X hX, ⟨(hX.2.2.2 148 5 (by omega)).trans h5.1, h5.2.1, fun i c hi => by rw [(hX.1 152 (by omega)).1]; exact h5.2.2 i c hi⟩, ⟨(hX.2.2.2 148 6 (by omega)).trans h6, (hX.2.2.2 148 7 (by omega)).trans h7⟩, ⟨(hX.2.2.2 148 9 (by omega)).trans h8.1, h8.2.1, fun i c hi => by rw [(hX.1 153 (by omega)).1]; exact h8.2.2 i c hi⟩⟩
theorem rT.s10 {G : mg_G} {S : a_S} (h : rT G S) (v : Value) : rT (mg_sF G 148 10 v) S := by
  obtain ⟨h1, h2, h3, h4, h5, ⟨h6, h7⟩, h8⟩ := h
  have ne : ∀ k, k ≠ 10 → (mg_sF G 148 10 v).2.2.2.2 148 k = G.2.2.2.2 148 k := fun k hk => mg_sF_ne _ _ (by omega)
  exact ⟨h1, h2.sF _ _ _, ⟨(ne 3 (by decide)).trans h3.1, h3.2.1, fun i B hi => (h3.2.2 i B hi).sF _ _ _⟩, fun s hs => ⟨(h4 s hs).1, fun B hB => ((h4 s hs).2 B hB).sF _ _ _⟩, ⟨(ne 5 (by decide)).trans h5.1, h5.2⟩, ⟨(ne 6 (by decide)).trans h6, (ne 7 (by decide)).trans h7⟩, ⟨(ne 9 (by decide)).trans h8.1, h8.2⟩⟩
/-- the answer of a call: what is thrown, the value, what is kept -/
def rA (G : mg_G) (S : a_S) (a : qR) : mg_Q := fun o q G' => q = 0 ∧ o = .inl (some (.int a.2)) ∧ G'.2.2.2.2 148 10 = .int a.1 ∧ rT G' S ∧ rF G G'
theorem rQ.A {G : mg_G} {S : a_S} {a : qR} (hT : rT G S) {o : Option Value ⊕ String} {q : Nat} {G' : mg_G} (h : rQ G a o q G') : rA G S a o q G' := by
  obtain ⟨rfl, rfl, hX⟩ := h
  exact ⟨rfl, rfl, (hX.2.2.2 148 10 (by omega)).trans (mg_sF_at _ _ _ _), (hT.s10 _).X hX, (rF.s _ _ _).tr hX.F⟩
theorem mg_v.A {G : mg_G} {S : a_S} {a : qR} (hT : rT G S) {o : Option Value ⊕ String} {q : Nat} {G' : mg_G} (h : mg_v (.int a.2) (mg_sF G 148 10 (.int a.1)) o q G') : rA G S a o q G' := by
  obtain ⟨rfl, rfl, rfl⟩ := h
  exact ⟨rfl, rfl, mg_sF_at _ _ _ _, hT.s10 _, rF.s _ _ _⟩
/-- only block 0 is changed -/
def r0 (G G' : mg_G) : Prop := rY G G' ∧ (∀ j, 186 ≤ j → G'.1 149 j = G.1 149 j) ∧ (∀ j, 48 ≤ j → G'.2.1 150 j = G.2.1 150 j) ∧ G'.2.2.2.2 148 3 = G.2.2.2.2 148 3
theorem r0.rf (G : mg_G) : r0 G G := ⟨rY.rf G, fun _ _ => rfl, fun _ _ => rfl, rfl⟩
theorem r0.tr {G G' G'' : mg_G} (h : r0 G G') (h2 : r0 G' G'') : r0 G G'' := ⟨h.1.tr h2.1, fun j hj => (h2.2.1 j hj).trans (h.2.1 j hj), fun j hj => (h2.2.2.1 j hj).trans (h.2.2.1 j hj), h2.2.2.2.trans h.2.2.2⟩
theorem r0.i (G : mg_G) {k : Nat} (x : Int32) (hk : k < 186) : r0 G (mg_sI G 149 k x) := ⟨rY.i G k x, fun j hj => mg_sI_ne _ _ _ _ (by omega), fun _ _ => rfl, rfl⟩
theorem r0.u (G : mg_G) {f : Nat → Int32} (hf : ∀ j, 186 ≤ j → f j = G.1 149 j) : r0 G (mg_u G.1 149 f, G.2) := ⟨⟨fun c hc => mg_u_ne _ _ hc, fun _ _ => rfl, rfl, rfl, fun _ _ _ => rfl⟩, fun j hj => (congrFun (mg_u_eq G.1 149 f) j).trans (hf j hj), fun _ _ => rfl, rfl⟩
theorem r0.w (G : mg_G) {r n : Nat} {g : Nat → Int64} (hr : 4 * r + n ≤ 48) : r0 G (cW G 150 r n g) := ⟨⟨fun _ _ => rfl, fun c hc => cW_ne _ _ _ _ _ _ hc, rfl, rfl, fun _ _ _ => rfl⟩, fun _ _ => rfl, fun j hj => cW_at _ _ _ _ _ _ (by omega), rfl⟩
theorem bS.r0 {G G' : mg_G} {c : Nat} {B : a_A} (h : bS G c B) (h0 : r0 G G') (hc : 1 ≤ c) : bS G' c B :=
  ⟨h.1.tr h.2 (fun j hj => h0.2.1 _ (by omega)) (fun j hj => h0.2.2.1 _ (by omega)), h.2⟩
theorem rT.r0 {G G' : mg_G} {S : a_S} (h : rT G S) (h0 : r0 G G') {A : a_A} (hA : bS G' 0 A) : rT G' (A, S.2) := by
  obtain ⟨h1, h2, h3, h4, h5, ⟨h6, h7⟩, h8⟩ := h
  obtain ⟨⟨y1, y2, y3, y4, y5⟩, z1, z2, z3⟩ := id h0
  exact ⟨fun v hv => by rw [y2 154 (by decide)]; exact h1 v hv, hA, ⟨z3.trans h3.1, h3.2.1, fun i B hi => (h3.2.2 i B hi).r0 h0 (by omega)⟩, fun s hs => ⟨by rw [y1 151 (by decide)]; exact (h4 s hs).1, fun B hB => ((h4 s hs).2 B hB).r0 h0 (by omega)⟩, ⟨(y5 148 5 (by decide)).trans h5.1, h5.2.1, fun i c hi => by rw [y1 152 (by decide)]; exact h5.2.2 i c hi⟩, ⟨(y5 148 6 (by decide)).trans h6, (y5 148 7 (by decide)).trans h7⟩, ⟨(y5 148 9 (by decide)).trans h8.1, h8.2.1, fun i c hi => by rw [y1 153 (by decide)]; exact h8.2.2 i c hi⟩⟩
/-- behind remember -/
theorem rT.rem {G G' : mg_G} {S : a_S} (h : rT G S) {U : List a_A} (hU : rUn G' U) (hY : rY G G') (hb : ∀ c B', c = 0 ∨ 9 ≤ c → bS G c B' → bS G' c B') : rT G' (sA S, U, S.2.2) := by
  obtain ⟨h1, h2, h3, h4, h5, ⟨h6, h7⟩, h8⟩ := h
  obtain ⟨y1, y2, y3, y4, y5⟩ := hY
  exact ⟨fun v hv => by rw [y2 154 (by decide)]; exact h1 v hv, hb 0 _ (Or.inl rfl) h2, hU, fun s hs => ⟨by rw [y1 151 (by decide)]; exact (h4 s hs).1, fun B hB => hb _ _ (Or.inr (by omega)) ((h4 s hs).2 B hB)⟩, ⟨(y5 148 5 (by decide)).trans h5.1, h5.2.1, fun i c hi => by rw [y1 152 (by decide)]; exact h5.2.2 i c hi⟩, ⟨(y5 148 6 (by decide)).trans h6, (y5 148 7 (by decide)).trans h7⟩, ⟨(y5 148 9 (by decide)).trans h8.1, h8.2.1, fun i c hi => by rw [y1 153 (by decide)]; exact h8.2.2 i c hi⟩⟩
theorem rK.Y {G G' : mg_G} {ts : List a_T} (h : rK G ts) (hY : rY G G') : rK G' ts := ⟨(hY.2.2.2.2 148 28 (by decide)).trans h.1, fun i T hi w hw => by rw [hY.2.1 164 (by decide)]; exact h.2 i T hi w hw⟩
theorem bA0 {G : mg_G} {A : a_A} (h1 : G.1 149 0 = Int32.ofNat (aV A)) (h2 : G.1 149 1 = Int32.ofNat (aF A)) (h3 : ∀ j, j < aV A → G.1 149 (2 + j) = Int32.ofNat (aD A j)) (h4 : ∀ v, v < aV A → G.1 149 (10 + v) = aC A v) (h5 : ∀ v, v < aV A → G.1 149 (18 + v) = aP A v) (h6 : ∀ v, v < aV A → rNm G (26 + 8 * v) (aVN A v)) (h7 : ∀ f, f < aF A → rNm G (90 + 8 * f) (aFN A f)) (h8 : ∀ f, f < aF A → a_tb G f = aT A f) : bA G (186 * 0) (48 * 0) A := by
  show bA G 0 0 A
  exact ⟨h1, h2, fun j hj => by rw [Nat.zero_add]; exact h3 j hj, fun j hj => by rw [Nat.zero_add]; exact h4 j hj, fun j hj => by rw [Nat.zero_add]; exact h5 j hj, fun j hj => by rw [Nat.zero_add]; exact h6 j hj, fun j hj => by rw [Nat.zero_add]; exact h7 j hj, fun j hj => by rw [Nat.zero_add]; exact h8 j hj⟩
/-! tables of the order's variables alone -/
theorem a_per_of {nv : Nat} {T x y z : a_T} (F : Bool → Bool → Bool → Bool) (h : ∀ k, k < 256 → a_at T k = F (a_at x k) (a_at y k) (a_at z k)) (hx : a_per nv x) (hy : a_per nv y) (hz : a_per nv z) : a_per nv T := fun v hv hn => by
  have q : ∀ U, a_per nv U → ∀ k, k < 256 → ∀ b, a_at U (a_sb k v b) = a_at U k := fun U hU k hk b => by rw [← a_cf_at U v hv b k hk, a_dp_no hv (hU v hv hn)]
  refine a_dp_of (a_at_ext fun k hk => ?_)
  rw [a_cf_at _ v hv _ k hk, a_cf_at _ v hv _ k hk, h _ (a_sb_lt' v hv k hk _), h _ (a_sb_lt' v hv k hk _), q x hx k hk, q y hy k hk, q z hz k hk, q x hx k hk, q y hy k hk, q z hz k hk]
theorem a_neg1 (j : Nat) (hj : j < 64) : (-1 : Int64).toBitVec.getLsbD j = true := by
  rw [show (-1 : Int64).toBitVec = BitVec.allOnes 64 from rfl, BitVec.getLsbD_allOnes, decide_eq_true hj]
theorem a_at4 (f : Nat → Int64) (k : Nat) (hk : k < 256) : a_at (a_tb4 f) k = (f (k / 64)).toBitVec.getLsbD (k % 64) := by
  unfold a_at
  rw [a_wd4 f _ (by omega)]
theorem a_per_op {nv : Nat} {x y : a_T} (op : Int32) (hx : a_per nv x) (hy : a_per nv y) : a_per nv (a_op op x y) := by
  unfold a_op a_comb
  have hm : ∀ k, k < 256 → k % 64 < 64 := fun k _ => Nat.mod_lt _ (by decide)
  by_cases h0 : op = 0
  · simp only [if_pos h0]
    exact a_per_of (fun a b _ => a && b) (fun k hk => by rw [a_at4 _ k hk, Int64.toBitVec_and, BitVec.getLsbD_and]; rfl) hx hy hx
  simp only [if_neg h0]
  by_cases h1 : op = 1
  · simp only [if_pos h1]
    exact a_per_of (fun a b _ => a || b) (fun k hk => by rw [a_at4 _ k hk, Int64.toBitVec_or, BitVec.getLsbD_or]; rfl) hx hy hx
  simp only [if_neg h1]
  by_cases h2 : op = 2
  · simp only [if_pos h2]
    exact a_per_of (fun a b _ => a ^^ b) (fun k hk => by rw [a_at4 _ k hk, Int64.toBitVec_xor, BitVec.getLsbD_xor]; rfl) hx hy hx
  simp only [if_neg h2]
  by_cases h3 : op = 3
  · simp only [if_pos h3]
    exact a_per_of (fun a b _ => (a ^^ true) || b) (fun k hk => by rw [a_at4 _ k hk, Int64.toBitVec_or, BitVec.getLsbD_or, Int64.toBitVec_xor, BitVec.getLsbD_xor, a_neg1 _ (hm k hk)]; rfl) hx hy hx
  simp only [if_neg h3]
  by_cases h4 : op = 4
  · simp only [if_pos h4]
    exact a_per_of (fun a b _ => (a ^^ b) ^^ true) (fun k hk => by rw [a_at4 _ k hk, Int64.toBitVec_xor, BitVec.getLsbD_xor, Int64.toBitVec_xor, BitVec.getLsbD_xor, a_neg1 _ (hm k hk)]; rfl) hx hy hx
  simp only [if_neg h4]
  exact a_per_of (fun a b _ => a && (b ^^ true)) (fun k hk => by rw [a_at4 _ k hk, Int64.toBitVec_and, BitVec.getLsbD_and, Int64.toBitVec_xor, BitVec.getLsbD_xor, a_neg1 _ (hm k hk)]; rfl) hx hy hx
theorem a_per_not {nv : Nat} {x : a_T} (hx : a_per nv x) : a_per nv (a_not x) :=
  a_per_of (fun a _ _ => a ^^ true) (fun k hk => by unfold a_not; rw [a_at4 _ k hk, Int64.toBitVec_xor, BitVec.getLsbD_xor, a_neg1 _ (Nat.mod_lt _ (by decide))]; rfl) hx hx hx
theorem a_per_sel {nv : Nat} {c x y : a_T} (hc : a_per nv c) (hx : a_per nv x) (hy : a_per nv y) : a_per nv (a_sel c x y) :=
  a_per_of (fun c a b => (c && a) || ((c ^^ true) && b)) (fun k hk => by unfold a_sel; rw [a_at4 _ k hk, Int64.toBitVec_or, BitVec.getLsbD_or, Int64.toBitVec_and, BitVec.getLsbD_and, Int64.toBitVec_and, BitVec.getLsbD_and, Int64.toBitVec_xor, BitVec.getLsbD_xor, a_neg1 _ (Nat.mod_lt _ (by decide))]; rfl) hc hx hy
/-! a new function -/
def addF (A : a_A) (n : List Nat) (T : a_T) : a_A := (aV A, aF A + 1, aD A, aC A, aP A, aVN A, mg_u (aFN A) (aF A) n, mg_u (aT A) (aF A) T)
theorem addF_W {A : a_A} (hA : aW A) (h : aF A < 12) {n : List Nat} (hn : a_nm7 n) {T : a_T} (hT : a_per (aV A) T) : aW (addF A n T) := by
  obtain ⟨h1, h2, h3, h4, h5, h6, h7⟩ := hA
  refine ⟨h1, h2, by show aF A + 1 ≤ 12; omega, fun f hf => ?_, h5, fun f hf => ?_, h7⟩
  · show a_per (aV A) (mg_u (aT A) (aF A) T f)
    by_cases e : f = aF A
    · subst e
      rw [mg_u_eq]
      exact hT
    · rw [mg_u_ne _ _ e]
      have hf : f < aF A + 1 := hf
      exact h4 f (by omega)
  · show a_nm7 (mg_u (aFN A) (aF A) n f)
    by_cases e : f = aF A
    · subst e
      rw [mg_u_eq]
      exact hn
    · rw [mg_u_ne _ _ e]
      have hf : f < aF A + 1 := hf
      exact h6 f (by omega)
def sAdd (S : a_S) (T : a_T) : a_S := (addF (sA S) [] T, a_push (sU S) (sA S), S.2.2)
section RM
variable {scr : Nat × (Nat → Int32)} {t : List mg_S} {G : mg_G} {S : a_S}
theorem r306 (d : Nat) {A : a_A} (hI : rI G A) : mg_m (mg_KM scr t) (d + 2) 306 [.ref 148] G (mg_v (.int (if aF A = 12 then 1 else 0)) G) := by
  have h12 := hI.f12
  refine mg_me [] 60 my_306 ms_306 (Nat.le_of_ble_eq_true rfl) ?_
  repeat (first | refine ⟨_, mg_Fs rfl rfl, ?_⟩ | refine ⟨_, mg_Fd rfl rfl, ?_⟩ | refine ⟨Or.inl rfl, ?_⟩ | refine ⟨Or.inr ⟨_, rfl⟩, ?_⟩ | refine ⟨fun _ => ?_, fun h => absurd h (by decide)⟩ | refine ⟨fun h => absurd h (by decide), fun _ => ?_⟩)
  refine mg_cv (r179n d hI.f) (by omega) ?_
  refine ⟨fun h => ?_, fun h => ?_⟩
  · rw [if_neg (fun q => h (by rw [q]; rfl))]
    exact ⟨Or.inr rfl, rfl, rfl, rfl⟩
  · have h := (mg_eqN (b := 12) (by omega) (by decide)).mp h
    rw [if_pos h]
    exact ⟨Or.inr rfl, rfl, rfl, rfl⟩
theorem r305 (d : Nat) (hT : rT G S) {T : a_T} (hK : cRow G 164 0 4 T) (h11 : aF (sA S) < 12) (hp : a_per (aV (sA S)) T) : mg_m (mg_KM scr t) (d + 3) 305 [.ref 148] G (fun o q G' => o = .inl (some (.int (Int32.ofNat (aF (sA S))))) ∧ q = 0 ∧ rT G' (sAdd S T) ∧ rY G G') := by
  have hI := hT.I
  have h8 := hI.v8
  refine mg_me [12] 30 my_305 ms_305 (Nat.le_of_ble_eq_true rfl) ?_
  repeat (first | refine ⟨_, mg_Fs rfl rfl, ?_⟩ | refine ⟨_, mg_Fd rfl rfl, ?_⟩ | refine ⟨Or.inl rfl, ?_⟩ | refine ⟨Or.inr ⟨_, rfl⟩, ?_⟩ | refine ⟨fun _ => ?_, fun h => absurd h (by decide)⟩ | refine ⟨fun h => absurd h (by decide), fun _ => ?_⟩)
  refine mg_m_mono (r185 d 0 (Or.inl rfl) (by decide) hT.2.2.1 hT.2.1) (by omega) ?_
  rintro o q G1 ⟨rfl, rfl, hU, hY, hb⟩
  have hT1 := hT.rem hU hY hb
  have hI1 := hT1.I
  have hK1 : cRow G1 164 0 4 T := fun w hw => by rw [hY.2.1 164 (by decide)]; exact hK w hw
  have eF : aF (sA (sA S, a_push (sU S) (sA S), S.2.2)) = aF (sA S) := rfl
  repeat (first | refine ⟨_, mg_Fs rfl rfl, ?_⟩ | refine ⟨_, mg_Fd rfl rfl, ?_⟩ | refine ⟨Or.inl rfl, ?_⟩ | refine ⟨Or.inr ⟨_, rfl⟩, ?_⟩ | refine ⟨fun _ => ?_, fun h => absurd h (by decide)⟩ | refine ⟨fun h => absurd h (by decide), fun _ => ?_⟩)
  refine mg_cv (r179n (d + 1) hI1.f) (by omega) ?_
  refine mg_loop 4 (fun k L G' => L = [some (.ref 148), some (.int (Int32.ofNat (aF (sA S)))), some (.int (Int32.ofNat k))] ∧ G' = cW G1 150 (aF (sA S)) k (a_wd T)) ?_ ?_ _ _ ⟨rfl, (cW_0 _ _ _ _).symm⟩
  · rintro k L G' hk ⟨rfl, rfl⟩ ih
    refine mg_go [12] 60 12 ms_305 ?_
    refine ⟨fun h => absurd h (mg_nle (b := 4) hk (by decide)), fun _ => ⟨_, mg_Fs rfl rfl, _, mg_Fs rfl rfl, 1600, _, k, mg_Al rfl (by decide), mg_ixN (by omega), by omega, ?_⟩⟩
    rw [show (cW G1 150 (aF (sA S)) k (a_wd T)).2.1 164 k = a_wd T k from by
      rw [cW_ne _ _ _ _ _ _ (by decide)]
      have := hK1 k hk
      rwa [Nat.mul_zero, Nat.zero_add] at this]
    exact ⟨576, 4 * aF (sA S) + k, rfl, mg_ixE (mg_4a _ _) (by omega), by omega, ih _ _ ⟨by rw [← mg_inc k], cW_s _ _ _ _ _⟩⟩
  · rintro L G' ⟨rfl, rfl⟩
    refine mg_go [12] 60 12 ms_305 ?_
    refine ⟨fun _ => ⟨_, mg_Fs rfl rfl, 2232, 90 + 8 * aF (sA S), rfl, mg_ixE (by rw [Int32.ofNat_add, Int32.ofNat_mul]; rfl) (by omega), by omega, ?_⟩, fun h => absurd h (by decide)⟩
    refine ⟨_, mg_Fs rfl rfl, 2232, 1, rfl, ⟨by decide, by decide⟩, by decide, Or.inl rfl, rfl, rfl, ?_⟩
    have h0 : r0 G1 (mg_sI (mg_sI (cW G1 150 (aF (sA S)) 4 (a_wd T)) 149 (90 + 8 * aF (sA S)) (Int32.ofInt 0)) 149 1 (Int32.ofNat (aF (sA S)) + Int32.ofInt 1)) := ((r0.w G1 (by omega)).tr (r0.i _ _ (by omega))).tr (r0.i _ _ (by omega))
    have ne : ∀ j, j ≠ 1 → j ≠ 90 + 8 * aF (sA S) → (mg_sI (mg_sI (cW G1 150 (aF (sA S)) 4 (a_wd T)) 149 (90 + 8 * aF (sA S)) (Int32.ofInt 0)) 149 1 (Int32.ofNat (aF (sA S)) + Int32.ofInt 1)).1 149 j = G1.1 149 j := fun j j1 j2 => by
      rw [mg_sI_ne _ _ _ _ j1, mg_sI_ne _ _ _ _ j2]
      rfl
    refine ⟨hT1.r0 h0 ⟨bA0 ?_ ?_ ?_ ?_ ?_ ?_ ?_ ?_, addF_W hI.W h11 ⟨fun c hc => absurd hc List.not_mem_nil, by decide⟩ hp⟩, hY.tr h0.1⟩
    · rw [ne 0 (by omega) (by omega)]
      exact hI1.v
    · rw [mg_sI_eq, mg_inc]
      rfl
    · intro j hj
      have hj : j < aV (sA S) := hj
      rw [ne _ (by omega) (by omega)]
      exact hI1.o hj
    · intro j hj
      have hj : j < aV (sA S) := hj
      rw [ne _ (by omega) (by omega)]
      exact hI1.c hj
    · intro j hj
      have hj : j < aV (sA S) := hj
      rw [ne _ (by omega) (by omega)]
      exact hI1.p hj
    · intro j hj
      have hj : j < aV (sA S) := hj
      have hl := (hI.W.2.2.2.2.1 j hj).1.2
      refine ⟨by rw [ne _ (by omega) (by omega)]; exact (hI1.vn hj).1, fun i c hi => ?_⟩
      have hi2 := (List.getElem?_eq_some_iff.mp hi).1
      have hi2 : i < (aVN (sA S) j).length := hi2
      rw [ne _ (by omega) (by omega)]
      exact (hI1.vn hj).2 i c hi
    · intro j hj
      have hj : j < aF (sA S) + 1 := hj
      show rNm _ _ (mg_u (aFN (sA S)) (aF (sA S)) [] j)
      by_cases e : j = aF (sA S)
      · subst e
        rw [mg_u_eq]
        refine ⟨by rw [mg_sI_ne _ _ _ _ (by omega), mg_sI_eq]; rfl, fun i c hi => by simp at hi⟩
      · rw [mg_u_ne _ _ e]
        have hj2 : j < aF (sA S) := by omega
        have hl := (hI.W.2.2.2.2.2.1 j hj2).2
        refine ⟨by rw [ne _ (by omega) (by omega)]; exact (hI1.fn hj2).1, fun i c hi => ?_⟩
        have hi2 := (List.getElem?_eq_some_iff.mp hi).1
        rw [ne _ (by omega) (by omega)]
        exact (hI1.fn hj2).2 i c hi
    · intro j hj
      have hj : j < aF (sA S) + 1 := hj
      show a_tb (cW G1 150 (aF (sA S)) 4 (a_wd T)) j = mg_u (aT (sA S)) (aF (sA S)) T j
      by_cases e : j = aF (sA S)
      · subst e
        rw [mg_u_eq]
        unfold a_tb
        rw [show (cW G1 150 (aF (sA S)) 4 (a_wd T)).2.1 150 (4 * aF (sA S)) = a_wd T 0 from cW_in G1 150 (aF (sA S)) 4 (a_wd T) 0 (by decide), cW_in G1 150 (aF (sA S)) 4 (a_wd T) 1 (by decide), cW_in G1 150 (aF (sA S)) 4 (a_wd T) 2 (by decide), cW_in G1 150 (aF (sA S)) 4 (a_wd T) 3 (by decide)]
        rfl
      · rw [mg_u_ne _ _ e, ← hI1.t (show j < aF (sA (sA S, a_push (sU S) (sA S), S.2.2)) by show j < aF (sA S); omega)]
        unfold a_tb
        rw [cW_at _ _ _ _ _ _ (by omega), cW_at _ _ _ _ _ _ (by omega), cW_at _ _ _ _ _ _ (by omega), cW_at _ _ _ _ _ _ (by omega)]
end RM
