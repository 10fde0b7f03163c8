/-! REFERENCE: blocks, and all that is kept -/
theorem bA.tr {G G' : mg_G} {p q p' q' : Nat} {B : a_A} (h : bA G p q B) (hW : aW B) (e : ∀ j, j < 186 → G'.1 149 (p' + j) = G.1 149 (p + j)) (e2 : ∀ j, j < 48 → G'.2.1 150 (q' + j) = G.2.1 150 (q + j)) : bA G' p' q' B := by
  obtain ⟨h1, h2, h3, h4, h5, h6, h7, h8⟩ := h
  have hv := hW.2.1.2.2.2
  have hf := hW.2.2.1
  have E : ∀ (x y : Nat), y < 186 → x = y → G'.1 149 (p' + x) = G.1 149 (p + x) := fun x y hy hx => e x (by omega)
  have nm : ∀ (c : Nat) (l : List Nat), c + 8 ≤ 186 → l.length ≤ 7 → rNm G (p + c) l → rNm G' (p' + c) l := fun c l hc hl hn => by
    refine ⟨(e c (by omega)).trans hn.1, fun i x hi => ?_⟩
    have hi2 := (List.getElem?_eq_some_iff.mp hi).1
    have := e (c + 1 + i) (by omega)
    rw [← Nat.add_assoc, ← Nat.add_assoc, ← Nat.add_assoc, ← Nat.add_assoc] at this
    exact this.trans (hn.2 i x hi)
  refine ⟨(e 0 (by decide)).trans h1, (e 1 (by decide)).trans h2, fun j hj => ?_, fun j hj => ?_, fun j hj => ?_, fun j hj => ?_, fun j hj => ?_, fun j hj => ?_⟩
  · rw [Nat.add_assoc, e _ (by omega), ← Nat.add_assoc]
    exact h3 j hj
  · rw [Nat.add_assoc, e _ (by omega), ← Nat.add_assoc]
    exact h4 j hj
  · rw [Nat.add_assoc, e _ (by omega), ← Nat.add_assoc]
    exact h5 j hj
  · rw [Nat.add_assoc]
    refine nm _ _ (by omega) (hW.2.2.2.2.1 j hj).1.2 ?_
    rw [← Nat.add_assoc]
    exact h6 j hj
  · rw [Nat.add_assoc]
    refine nm _ _ (by omega) (hW.2.2.2.2.2.1 j hj).2 ?_
    rw [← Nat.add_assoc]
    exact h7 j hj
  · rw [Nat.add_assoc q' (4 * j) 1, Nat.add_assoc q' (4 * j) 2, Nat.add_assoc q' (4 * j) 3, e2 _ (by omega), e2 _ (by omega), e2 _ (by omega), e2 _ (by omega), ← Nat.add_assoc, ← Nat.add_assoc, ← Nat.add_assoc]
    exact h8 j hj
theorem mg_sF_at (G : mg_G) (a k : Nat) (v : Value) : (mg_sF G a k v).2.2.2.2 a k = v := (mg_u2_at G.2.2.2.2 a k v a k).trans (if_pos ⟨rfl, rfl⟩)
theorem mg_sF_ne (G : mg_G) {a k b j : Nat} (v : Value) (h : ¬ (b = a ∧ j = k)) : (mg_sF G a k v).2.2.2.2 b j = G.2.2.2.2 b j := (mg_u2_at G.2.2.2.2 a k v b j).trans (if_neg h)
/-- block k holds B -/
def bS (G : mg_G) (k : Nat) (B : a_A) : Prop := bA G (186 * k) (48 * k) B ∧ aW B
def cpm (G : mg_G) (a b : Nat) : mg_G := (mg_u G.1 149 (a_cp (G.1 149) (186 * a) (186 * b) 186), mg_u G.2.1 150 (a_cp (G.2.1 150) (48 * a) (48 * b) 48), G.2.2)
theorem bS.to {G : mg_G} {a b : Nat} {B : a_A} (h : bS G a B) : bS (cpm G a b) b B :=
  ⟨h.1.tr h.2 (fun j hj => by
    show mg_u G.1 149 (a_cp (G.1 149) (186 * a) (186 * b) 186) 149 (186 * b + j) = _
    rw [mg_u_eq]
    unfold a_cp
    rw [if_pos (by omega), show 186 * b + j - 186 * b = j by omega]) (fun j hj => by
    show mg_u G.2.1 150 (a_cp (G.2.1 150) (48 * a) (48 * b) 48) 150 (48 * b + j) = _
    rw [mg_u_eq]
    unfold a_cp
    rw [if_pos (by omega), show 48 * b + j - 48 * b = j by omega]), h.2⟩
theorem bS.ot {G : mg_G} {a b c : Nat} {B : a_A} (h : bS G c B) (hc : c ≠ b) : bS (cpm G a b) c B :=
  ⟨h.1.tr h.2 (fun j hj => by
    show mg_u G.1 149 (a_cp (G.1 149) (186 * a) (186 * b) 186) 149 (186 * c + j) = _
    rw [mg_u_eq]
    unfold a_cp
    rw [if_neg (by omega)]) (fun j hj => by
    show mg_u G.2.1 150 (a_cp (G.2.1 150) (48 * a) (48 * b) 48) 150 (48 * c + j) = _
    rw [mg_u_eq]
    unfold a_cp
    rw [if_neg (by omega)]), h.2⟩
/-- only blocks and the number of changes are written -/
def rY (G G' : mg_G) : Prop := (∀ b, b ≠ 149 → G'.1 b = G.1 b) ∧ (∀ b, b ≠ 150 → G'.2.1 b = G.2.1 b) ∧ G'.2.2.1 = G.2.2.1 ∧ G'.2.2.2.1 = G.2.2.2.1 ∧ ∀ b k, ¬ (b = 148 ∧ k = 3) → G'.2.2.2.2 b k = G.2.2.2.2 b k
theorem rY.rf (G : mg_G) : rY G G := ⟨fun _ _ => rfl, fun _ _ => rfl, rfl, rfl, fun _ _ _ => rfl⟩
theorem rY.tr {G G' G'' : mg_G} (h : rY G G') (h2 : rY G' G'') : rY G G'' :=
  ⟨fun b hb => (h2.1 b hb).trans (h.1 b hb), fun b hb => (h2.2.1 b hb).trans (h.2.1 b hb), h2.2.2.1.trans h.2.2.1, h2.2.2.2.1.trans h.2.2.2.1, fun b k hb => (h2.2.2.2.2 b k hb).trans (h.2.2.2.2 b k hb)⟩
theorem rY.cp (G : mg_G) (a b : Nat) : rY G (cpm G a b) := ⟨fun c hc => mg_u_ne _ _ hc, fun c hc => mg_u_ne _ _ hc, rfl, rfl, fun _ _ _ => rfl⟩
theorem rY.s3 (G : mg_G) (v : Value) : rY G (mg_sF G 148 3 v) := ⟨fun _ _ => rfl, fun _ _ => rfl, rfl, rfl, fun b k hb => (mg_u2_at _ _ _ _ _ _).trans (if_neg hb)⟩
theorem rY.i (G : mg_G) (k : Nat) (x : Int32) : rY G (mg_sI G 149 k x) := ⟨fun c hc => mg_u2_ne _ _ _ hc, fun _ _ => rfl, rfl, rfl, fun _ _ _ => rfl⟩
theorem rY.j (G : mg_G) (k : Nat) (x : Int64) : rY G (mg_sJ G 150 k x) := ⟨fun _ _ => rfl, fun c hc => mg_u2_ne _ _ _ hc, rfl, rfl, fun _ _ _ => rfl⟩
theorem bS.sF {G : mg_G} {c : Nat} {B : a_A} (h : bS G c B) (a k : Nat) (v : Value) : bS (mg_sF G a k v) c B := ⟨h.1.c rfl rfl, h.2⟩
theorem bS.X {G G' : mg_G} {c : Nat} {B : a_A} (h : bS G c B) (hX : rX G G') : bS G' c B := ⟨h.1.c (hX.1 149 (by omega)).1 (hX.1 150 (by omega)).2, h.2⟩
/-- the states that undo takes back to, oldest first -/
def rUn (G : mg_G) (U : List a_A) : Prop := G.2.2.2.2 148 3 = .int (Int32.ofNat U.length) ∧ U.length ≤ 8 ∧ ∀ i B, U[i]? = some B → bS G (i + 1) B
def a_push (U : List a_A) (B : a_A) : List a_A := (if U.length = 8 then U.tail else U) ++ [B]
theorem a_push_le {U : List a_A} {B : a_A} (h : U.length ≤ 8) : (a_push U B).length ≤ 8 := by
  unfold a_push
  rw [List.length_append, List.length_singleton]
  split
  · rw [List.length_tail]
    omega
  · omega
section RM
variable {scr : Nat × (Nat → Int32)} {t : List mg_S} {G : mg_G}
theorem r184m (d a b : Nat) (ha : a < 12) (hb : b < 12) : mg_m (mg_KM scr t) (d + 1) 184 [.ref 148, .int (Int32.ofNat a), .int (Int32.ofNat b)] G (mg_n (cpm G a b)) := r184 d a b ha hb G
theorem r185 (d k : Nat) (hk : k = 0 ∨ 9 ≤ k) (hk2 : k < 12) {U : List a_A} {B : a_A} (hU : rUn G U) (hB : bS G k B) : mg_m (mg_KM scr t) (d + 2) 185 [.ref 148, .int (Int32.ofNat k)] G (fun o q G' => o = .inl none ∧ q = 0 ∧ rUn G' (a_push U B) ∧ rY G G' ∧ ∀ c B', c = 0 ∨ 9 ≤ c → bS G c B' → bS G' c B') := by
  obtain ⟨h1, h2, h3⟩ := hU
  have fin : ∀ (V : List a_A) (G1 : mg_G) (L : mm_L), (∃ c2, L = [some (.ref 148), some (.int (Int32.ofNat k)), c2]) → V.length ≤ 7 → G1.2.2.2.2 148 3 = .int (Int32.ofNat V.length) → (∀ i B, V[i]? = some B → bS G1 (i + 1) B) → bS G1 k B → mg_wp (mg_KM scr t) mc_185 (d + 1) 41 L [] G1 (fun o q G' => o = .inl none ∧ q = 0 ∧ rUn G' (V ++ [B]) ∧ rY G1 G' ∧ ∀ c B', c = 0 ∨ 9 ≤ c → bS G1 c B' → bS G' c B') := by
    rintro V G1 L ⟨c2, rfl⟩ hl he hV hb
    have e4 : (mg_sF G1 148 3 (.int (Int32.ofNat (V.length + 1)))).2.2.2.2 148 3 = .int (Int32.ofNat (V.length + 1)) := mg_sF_at _ _ _ _
    have key := r184m (scr := scr) (t := t) (G := mg_sF G1 148 3 (.int (Int32.ofNat (V.length + 1)))) d k (V.length + 1) hk2 (by omega)
    rw [← mg_inc V.length] at key e4
    refine mg_go [] 60 41 ms_185 ?_
    refine ⟨_, mg_Fe he rfl rfl, rfl, _, rfl, rfl, ?_⟩
    refine ⟨_, mg_Fe e4 rfl rfl, ?_⟩
    repeat (first | refine ⟨_, mg_Fs rfl rfl, ?_⟩ | refine ⟨_, mg_Fd rfl rfl, ?_⟩ | refine ⟨Or.inl rfl, ?_⟩ | refine ⟨Or.inr ⟨_, rfl⟩, ?_⟩ | refine ⟨fun _ => ?_, fun h => absurd h (by decide)⟩ | refine ⟨fun h => absurd h (by decide), fun _ => ?_⟩)
    refine mg_cn (key) (by omega) ?_
    refine ⟨rfl, rfl, ⟨?_, by rw [List.length_append, List.length_singleton]; omega, fun i C hi => ?_⟩, (rY.s3 G1 _).tr (rY.cp _ _ _), fun c B' hc hb' => (hb'.sF _ _ _).ot (by omega)⟩
    · rw [List.length_append, List.length_singleton, ← mg_inc]
      exact e4
    · by_cases hi2 : i < V.length
      · rw [List.getElem?_append_left hi2] at hi
        exact ((hV i C hi).sF _ _ _).ot (by omega)
      · have hi3 := (List.getElem?_eq_some_iff.mp hi).1
        rw [List.length_append, List.length_singleton] at hi3
        have ei : i = V.length := by omega
        subst ei
        rw [List.getElem?_append_right (Nat.le_refl _), Nat.sub_self] at hi
        have := Option.some.inj (show some B = some C from hi)
        subst this
        exact (hb.sF _ _ _).to
  by_cases h8 : U.length = 8
  · have ep : a_push U B = U.tail ++ [B] := by
      unfold a_push
      rw [if_pos h8]
    have et : U.tail.length = 7 := by
      rw [List.length_tail]
      omega
    rw [ep]
    rw [h8] at h1
    refine mg_me [11, 41] 20 my_185 ms_185 (Nat.le_of_ble_eq_true rfl) ?_
    refine ⟨_, mg_Fe h1 rfl rfl, fun h => absurd rfl h, fun _ => ?_⟩
    refine mg_loop 7 (fun j L G' => L = [some (.ref 148), some (.int (Int32.ofNat k)), some (.int (Int32.ofNat (j + 1)))] ∧ rY G G' ∧ G'.2.2.2.2 148 3 = .int (Int32.ofNat 8) ∧ (∀ c B', c = 0 ∨ 9 ≤ c → bS G c B' → bS G' c B') ∧ (∀ c C, 1 ≤ c → c < j + 1 → U[c]? = some C → bS G' c C) ∧ ∀ c C, j + 1 ≤ c → U[c - 1]? = some C → bS G' c C) ?_ ?_ _ _ ⟨rfl, rY.rf G, h1, fun _ _ _ h => h, fun c C a b => by omega, fun c C a hi => by
      have := h3 (c - 1) C hi
      rwa [show c - 1 + 1 = c by omega] at this⟩
    · rintro j L G' hj ⟨rfl, i1, i2, i3, i4, i5⟩ ih
      have key := r184m (scr := scr) (t := t) (G := G') d (j + 2) (j + 1) (by omega) (by omega)
      rw [← mg_inc (j + 1)] at key
      refine mg_go [11, 41] 60 11 ms_185 ?_
      refine ⟨fun h => absurd h (mg_nle (b := 8) (by omega) (by decide)), fun _ => ?_⟩
      repeat (first | refine ⟨_, mg_Fs rfl rfl, ?_⟩ | refine ⟨_, mg_Fd rfl rfl, ?_⟩ | refine ⟨Or.inl rfl, ?_⟩ | refine ⟨Or.inr ⟨_, rfl⟩, ?_⟩ | refine ⟨fun _ => ?_, fun h => absurd h (by decide)⟩ | refine ⟨fun h => absurd h (by decide), fun _ => ?_⟩)
      refine mg_cn (key) (by omega) ?_
      refine ih _ _ ⟨by rw [← mg_inc (j + 1)], i1.tr (rY.cp _ _ _), i2, fun c B' hc hb => (i3 c B' hc hb).ot (by omega), fun c C a b hc => ?_, fun c C a hc => ?_⟩
      · rcases Nat.lt_or_eq_of_le (Nat.le_of_lt_succ b) with h | rfl
        · exact (i4 c C a h hc).ot (by omega)
        · exact bS.to (i5 (j + 2) C (by omega) hc)
      · exact (i5 c C (by omega) hc).ot (by omega)
    · rintro L G' ⟨rfl, i1, i2, i3, i4, i5⟩
      have i2' : (mg_sF G' 148 3 (.int (Int32.ofNat 8 - Int32.ofInt 1))).2.2.2.2 148 3 = .int (Int32.ofNat U.tail.length) := by
        rw [mg_sF_at, et]
        rfl
      refine mg_go [11, 41] 60 11 ms_185 ?_
      refine ⟨fun _ => ?_, fun h => absurd h (by decide)⟩
      refine ⟨_, mg_Fe i2 rfl rfl, rfl, _, rfl, rfl, ?_⟩
      refine mg_wp_mono (fin U.tail _ _ ⟨_, rfl⟩ (by omega) i2' (fun i C hi => ?_) ((i3 k B hk hB).sF _ _ _)) (fun o q G2 h => ?_)
      · rw [List.getElem?_tail] at hi
        have hi2 := (List.getElem?_eq_some_iff.mp hi).1
        exact (i4 (i + 1) C (by omega) (by omega) hi).sF _ _ _
      · obtain ⟨rfl, rfl, a1, a2, a3⟩ := h
        exact ⟨rfl, rfl, a1, (i1.tr (rY.s3 _ _)).tr a2, fun c B' hc hb => a3 c B' hc ((i3 c B' hc hb).sF _ _ _)⟩
  · have ep : a_push U B = U ++ [B] := by
      unfold a_push
      rw [if_neg h8]
    rw [ep]
    refine mg_me [11, 41] 20 my_185 ms_185 (Nat.le_of_ble_eq_true rfl) ?_
    refine ⟨_, mg_Fe h1 rfl rfl, fun _ => ?_, fun h => absurd ((mg_eqN (b := 8) (by omega) (by decide)).mp h) h8⟩
    exact fin U G _ ⟨_, rfl⟩ (by omega) h1 h3 hB
end RM
