/-! REFERENCE: statements, what they are made of -/
/-- what reading statements may change -/
def tF (G G' : mg_G) : Prop := (∀ b, b ≠ 149 → b < 155 ∨ 168 < b → G'.1 b = G.1 b) ∧ (∀ b, b ≠ 150 → b < 155 ∨ 168 < b → G'.2.1 b = G.2.1 b) ∧ (∀ j, 186 ≤ j → G'.1 149 j = G.1 149 j) ∧ (∀ j, 48 ≤ j → G'.2.1 150 j = G.2.1 150 j) ∧ G'.2.2.1 = G.2.2.1 ∧ G'.2.2.2.1 = G.2.2.2.1 ∧ ∀ b k, ¬ (b = 148 ∧ (k = 6 ∨ k = 7 ∨ k = 16 ∨ (22 ≤ k ∧ k ≤ 26) ∨ k = 28 ∨ k = 31)) → G'.2.2.2.2 b k = G.2.2.2.2 b k
theorem tF.rf (G : mg_G) : tF G G := ⟨fun _ _ _ => rfl, fun _ _ _ => rfl, fun _ _ => rfl, fun _ _ => rfl, rfl, rfl, fun _ _ _ => rfl⟩
theorem tF.tr {G G' G'' : mg_G} (h : tF G G') (h2 : tF G' G'') : tF G G'' :=
  ⟨fun b h1 h3 => (h2.1 b h1 h3).trans (h.1 b h1 h3), fun b h1 h3 => (h2.2.1 b h1 h3).trans (h.2.1 b h1 h3), fun j hj => (h2.2.2.1 j hj).trans (h.2.2.1 j hj), fun j hj => (h2.2.2.2.1 j hj).trans (h.2.2.2.1 j hj), h2.2.2.2.2.1.trans h.2.2.2.2.1, h2.2.2.2.2.2.1.trans h.2.2.2.2.2.1, fun b k hb => (h2.2.2.2.2.2.2 b k hb).trans (h.2.2.2.2.2.2 b k hb)⟩
theorem rPz.t {G G' : mg_G} (h : rPz G G') : tF G G' := ⟨h.1, h.2.1, h.2.2.1, h.2.2.2.1, h.2.2.2.2.1, h.2.2.2.2.2.1, fun b k hb => h.2.2.2.2.2.2 b k (by omega)⟩
theorem rRf.t {G G' : mg_G} (h : rRf G G') : tF G G' := ⟨fun b _ hb => (h.1 b hb).1, fun b _ hb => (h.1 b hb).2, fun j _ => congrFun (h.1 149 (by decide)).1 j, fun j _ => congrFun (h.1 150 (by decide)).2 j, h.2.1, h.2.2.1, h.2.2.2⟩
/-- a state is read into, the token at p -/
def tI (G : mg_G) (A : a_A) (l : List Nat) (p : Nat) : Prop := rI G A ∧ rIn G l ∧ rk G l p
/-- on the way, against G0 -/
def tM (G0 G : mg_G) (A : a_A) (l : List Nat) (p : Nat) : Prop := tF G0 G ∧ tI G A l p ∧ G.2.2.2.2 148 6 = G0.2.2.2.2 148 6 ∧ G.2.2.2.2 148 7 = G0.2.2.2.2 148 7
/-- the end: an error (0 is answered), or a state (1) -/
def rD (G0 : mg_G) (l : List Nat) (r : sR) : mg_Q := fun o q G => q = 0 ∧ tF G0 G ∧ match r with
  | .inl e => o = .inl (some (.int 0)) ∧ G.2.2.2.2 148 6 = .int e.1 ∧ G.2.2.2.2 148 7 = .int (Int32.ofNat e.2)
  | .inr x => o = .inl (some (.int 1)) ∧ tI G x.1 l x.2 ∧ G.2.2.2.2 148 6 = G0.2.2.2.2 148 6 ∧ G.2.2.2.2 148 7 = G0.2.2.2.2 148 7
section TM
variable {G0 G G' : mg_G} {A A' : a_A} {l : List Nat} {p q : Nat}
theorem tI.M (h : tI G A l p) : tM G G A l p := ⟨tF.rf G, h, rfl, rfl⟩
theorem tM.t (h : tM G0 G A l p) (hk : rk G' l q) (hf : rKf G G') : tM G0 G' A l q := ⟨h.1.tr hf.o.R.t, ⟨hf.o.R.I h.2.1.1, hf.n h.2.1.2.1, hk⟩, (hf.2.2.2.2 148 6 (by decide)).trans h.2.2.1, (hf.2.2.2.2 148 7 (by decide)).trans h.2.2.2⟩
theorem tM.z (h : tM G0 G A l p) (hI : rI G' A') (hz : rPz G G') : tM G0 G' A' l p := by
  have e : ∀ k, k = 5 ∨ k = 6 ∨ k = 7 ∨ (22 ≤ k ∧ k ≤ 25) → G'.2.2.2.2 148 k = G.2.2.2.2 148 k := fun k hk => hz.2.2.2.2.2.2 148 k (by omega)
  obtain ⟨h1, ⟨h2, h3, h4⟩, h5, h6⟩ := h
  refine ⟨h1.tr hz.t, ⟨hI, ⟨(e 5 (by omega)).trans h3.1, h3.2.1, fun i c hi => ?_⟩, (e 22 (by omega)).trans h4.1, (e 23 (by omega)).trans h4.2.1, (e 24 (by omega)).trans h4.2.2.1, fun z => (e 25 (by omega)).trans (h4.2.2.2 z)⟩, (e 6 (by omega)).trans h5, (e 7 (by omega)).trans h6⟩
  rw [hz.1 152 (by decide) (by decide)]
  exact h3.2.2 i c hi
theorem tM.x (h : tM G0 G A l p) (c : Int32) : rD G0 l (.inl (c, k_S l p)) (.inl (some (.int 0))) 0 (zX G c l p) := ⟨rfl, h.1.tr (zX_R G c l p).t, rfl, (mg_sF_ne _ _ (by decide)).trans (mg_sF_at _ _ _ _), mg_sF_at _ _ _ _⟩
theorem tM.Q (h : tM G0 G A l p) : rD G0 l (.inr (A, p)) (.inl (some (.int 1))) 0 G := ⟨rfl, h.1, rfl, h.2.1, h.2.2.1, h.2.2.2⟩
end TM
/-- a cost, a percentage -/
theorem rI.sC9 {G : mg_G} {A : a_A} (hI1 : rI G A) {i : Nat} (hi : i < aV A) (x : Int32) : rI (mg_sI G 149 (10 + i) x) (setC A i x) ∧ rPz G (mg_sI G 149 (10 + i) x) := by
  have h8 := hI1.v8
  have ne : ∀ k, k ≠ 10 + i → (mg_sI G 149 (10 + i) x).1 149 k = G.1 149 k := fun k hk => mg_sI_ne _ _ _ _ hk
  have hb : bA (mg_sI G 149 (10 + i) x) (186 * 0) (48 * 0) (setC A i x) := by
    refine bA0 ?_ ?_ ?_ ?_ ?_ ?_ ?_ ?_
    · rw [ne 0 (by omega)]; exact hI1.v
    · rw [ne 1 (by omega)]; exact hI1.f
    · intro k hk; have hk : k < aV A := hk; rw [ne _ (by omega)]; exact hI1.o hk
    · intro k hk
      have hk : k < aV A := hk
      show _ = mg_u (aC A) i x k
      by_cases e : k = i
      · subst e
        rw [mg_sI_eq, mg_u_eq]
      · rw [ne _ (by omega), mg_u_ne _ _ e]
        exact hI1.c hk
    · intro k hk; have hk : k < aV A := hk; rw [ne _ (by omega)]; exact hI1.p hk
    · intro k hk; have hk : k < aV A := hk; exact ⟨by rw [ne _ (by omega)]; exact (hI1.vn hk).1, fun l c hl => by rw [ne _ (by omega)]; exact (hI1.vn hk).2 l c hl⟩
    · intro k hk; have hk : k < aF A := hk; exact ⟨by rw [ne _ (by omega)]; exact (hI1.fn hk).1, fun l c hl => by rw [ne _ (by omega)]; exact (hI1.fn hk).2 l c hl⟩
    · intro k hk; exact hI1.t hk
  exact ⟨⟨fun v hv => hI1.1 v hv, hb, setC_W hI1.W _ _⟩, (r0.i G x (by omega)).z⟩
theorem rI.sP9 {G : mg_G} {A : a_A} (hI1 : rI G A) {i n : Nat} (hi : i < aV A) (hn : n ≤ 100) : rI (mg_sI G 149 (18 + i) (Int32.ofNat n)) (setP A i (Int32.ofNat n)) ∧ rPz G (mg_sI G 149 (18 + i) (Int32.ofNat n)) := by
  have h8 := hI1.v8
  have ne : ∀ k, k ≠ 18 + i → (mg_sI G 149 (18 + i) (Int32.ofNat n)).1 149 k = G.1 149 k := fun k hk => mg_sI_ne _ _ _ _ hk
  have hb : bA (mg_sI G 149 (18 + i) (Int32.ofNat n)) (186 * 0) (48 * 0) (setP A i (Int32.ofNat n)) := by
    refine bA0 ?_ ?_ ?_ ?_ ?_ ?_ ?_ ?_
    · rw [ne 0 (by omega)]; exact hI1.v
    · rw [ne 1 (by omega)]; exact hI1.f
    · intro k hk; have hk : k < aV A := hk; rw [ne _ (by omega)]; exact hI1.o hk
    · intro k hk; have hk : k < aV A := hk; rw [ne _ (by omega)]; exact hI1.c hk
    · intro k hk
      have hk : k < aV A := hk
      show _ = mg_u (aP A) i (Int32.ofNat n) k
      by_cases e : k = i
      · subst e
        rw [mg_sI_eq, mg_u_eq]
      · rw [ne _ (by omega), mg_u_ne _ _ e]
        exact hI1.p hk
    · intro k hk; have hk : k < aV A := hk; exact ⟨by rw [ne _ (by omega)]; exact (hI1.vn hk).1, fun l c hl => by rw [ne _ (by omega)]; exact (hI1.vn hk).2 l c hl⟩
    · intro k hk; have hk : k < aF A := hk; exact ⟨by rw [ne _ (by omega)]; exact (hI1.fn hk).1, fun l c hl => by rw [ne _ (by omega)]; exact (hI1.fn hk).2 l c hl⟩
    · intro k hk; exact hI1.t hk
  exact ⟨⟨fun v hv => hI1.1 v hv, hb, setP_W hI1.W _ _ hn⟩, (r0.i G _ (by omega)).z⟩
theorem rI.v9 {G : mg_G} {A : a_A} (hI : rI G A) {v : Nat} (hv : v < aV A) : rNm G (26 + 8 * v) (aVN A v) ∧ a_nm7 (aVN A v) := ⟨hI.vn hv, (hI.W.2.2.2.2.1 v hv).1⟩
theorem rI.f9 {G : mg_G} {A : a_A} (hI : rI G A) {f : Nat} (hf : f < aF A) : rNm G (90 + 8 * f) (aFN A f) ∧ a_nm7 (aFN A f) := ⟨hI.fn hf, hI.W.2.2.2.2.2.1 f hf⟩
/-- names of variables and functions stand in block 0 (also while variables are declared) -/
def rV9 (G : mg_G) (A : a_A) : Prop := aV A ≤ 8 ∧ aF A ≤ 12 ∧ G.1 149 0 = Int32.ofNat (aV A) ∧ G.1 149 1 = Int32.ofNat (aF A) ∧ (∀ v, v < aV A → rNm G (26 + 8 * v) (aVN A v) ∧ a_nm7 (aVN A v)) ∧ ∀ f, f < aF A → rNm G (90 + 8 * f) (aFN A f) ∧ a_nm7 (aFN A f)
theorem rI.V9 {G : mg_G} {A : a_A} (hI : rI G A) : rV9 G A := ⟨Nat.le_of_lt_succ hI.v8, hI.f12, hI.v, hI.f, fun v hv => hI.v9 hv, fun f hf => hI.f9 hf⟩
section RM
variable {scr : Nat × (Nat → Int32)} {t : List mg_S} {G : mg_G} {A : a_A} {l : List Nat} {p : Nat}
theorem r222x (d : Nat) (hN : rIn G l) (hk : rk G l p) (hp : p ≤ l.length) (h : k_nm l p = false) : mg_m (mg_KM scr t) (d + 8) 222 [.ref 148] G (mg_v (.int 0) (zX G 1 l p)) := by
  have k1 := r217 (scr := scr) (t := t) d hN hk hp
  rw [h] at k1
  refine mg_me [] 60 my_222 ms_222 (Nat.le_of_ble_eq_true rfl) ?_
  repeat (first | refine ⟨_, mg_Fs rfl rfl, ?_⟩ | refine ⟨Or.inl rfl, ?_⟩ | refine ⟨Or.inr ⟨_, rfl⟩, ?_⟩ | refine ⟨fun _ => ?_, fun h => absurd h (by decide)⟩ | refine ⟨fun h => absurd h (by decide), fun _ => ?_⟩)
  refine mg_cv (k1) (by omega) ?_
  refine ⟨fun q => absurd rfl q, fun _ => ?_⟩
  repeat (first | refine ⟨_, mg_Fs rfl rfl, ?_⟩ | refine ⟨Or.inl rfl, ?_⟩ | refine ⟨Or.inr ⟨_, rfl⟩, ?_⟩ | refine ⟨fun _ => ?_, fun h => absurd h (by decide)⟩ | refine ⟨fun h => absurd h (by decide), fun _ => ?_⟩)
  refine mg_cv (r212 d hk 1) (by omega) ?_
  exact ⟨Or.inr rfl, rfl, rfl, rfl⟩
theorem r222z (d : Nat) (hV : rV9 G A) (hN : rIn G l) (hk : rk G l p) (hp : p ≤ l.length) (h : k_nm l p = true) (h2 : t_nw A l p = false) : mg_m (mg_KM scr t) (d + 8) 222 [.ref 148] G (mg_v (.int 0) (zX G 4 l p)) := by
  obtain ⟨h8, h12, hv, hf, hvn, hfn⟩ := hV
  have h1 := k_nm_1 h
  have k1 := r217 (scr := scr) (t := t) d hN hk hp
  rw [h] at k1
  have k2 : mg_m (mg_KM scr t) (d + 2) 219 [.ref 148] G (mg_v (.int (a_oi (k_v A l p))) G) := r219 d hN hk hp h1 hv h8 hvn
  have k3 : mg_m (mg_KM scr t) (d + 2) 220 [.ref 148] G (mg_v (.int (a_oi (k_f A l p))) G) := r220 d hN hk hp h1 hf h12 hfn
  cases ev : k_v A l p with
  | some v =>
    have hv2 : v < aV A := k_at_lt ev
    rw [ev] at k2
    refine mg_me [] 60 my_222 ms_222 (Nat.le_of_ble_eq_true rfl) ?_
    repeat (first | refine ⟨_, mg_Fs rfl rfl, ?_⟩ | refine ⟨Or.inl rfl, ?_⟩ | refine ⟨Or.inr ⟨_, rfl⟩, ?_⟩ | refine ⟨fun _ => ?_, fun h => absurd h (by decide)⟩ | refine ⟨fun h => absurd h (by decide), fun _ => ?_⟩)
    refine mg_cv (k1) (by omega) ?_
    refine ⟨fun _ => ?_, fun q => absurd q (by decide)⟩
    repeat (first | refine ⟨_, mg_Fs rfl rfl, ?_⟩ | refine ⟨Or.inl rfl, ?_⟩ | refine ⟨Or.inr ⟨_, rfl⟩, ?_⟩ | refine ⟨fun _ => ?_, fun h => absurd h (by decide)⟩ | refine ⟨fun h => absurd h (by decide), fun _ => ?_⟩)
    refine mg_cv (k2) (by omega) ?_
    refine ⟨fun _ => ?_, fun q => absurd q (mg_n1 (by omega))⟩
    repeat (first | refine ⟨_, mg_Fs rfl rfl, ?_⟩ | refine ⟨Or.inl rfl, ?_⟩ | refine ⟨Or.inr ⟨_, rfl⟩, ?_⟩ | refine ⟨fun _ => ?_, fun h => absurd h (by decide)⟩ | refine ⟨fun h => absurd h (by decide), fun _ => ?_⟩)
    refine mg_cv (r212 d hk 4) (by omega) ?_
    exact ⟨Or.inr rfl, rfl, rfl, rfl⟩
  | none =>
    cases ef : k_f A l p with
    | none =>
      unfold t_nw at h2
      rw [ev, ef] at h2
      cases h2
    | some f =>
      have hf2 : f < aF A := k_at_lt ef
      rw [ev] at k2
      rw [ef] at k3
      refine mg_me [] 60 my_222 ms_222 (Nat.le_of_ble_eq_true rfl) ?_
      repeat (first | refine ⟨_, mg_Fs rfl rfl, ?_⟩ | refine ⟨Or.inl rfl, ?_⟩ | refine ⟨Or.inr ⟨_, rfl⟩, ?_⟩ | refine ⟨fun _ => ?_, fun h => absurd h (by decide)⟩ | refine ⟨fun h => absurd h (by decide), fun _ => ?_⟩)
      refine mg_cv (k1) (by omega) ?_
      refine ⟨fun _ => ?_, fun q => absurd q (by decide)⟩
      repeat (first | refine ⟨_, mg_Fs rfl rfl, ?_⟩ | refine ⟨Or.inl rfl, ?_⟩ | refine ⟨Or.inr ⟨_, rfl⟩, ?_⟩ | refine ⟨fun _ => ?_, fun h => absurd h (by decide)⟩ | refine ⟨fun h => absurd h (by decide), fun _ => ?_⟩)
      refine mg_cv (k2) (by omega) ?_
      refine ⟨fun q => absurd rfl q, fun _ => ?_⟩
      repeat (first | refine ⟨_, mg_Fs rfl rfl, ?_⟩ | refine ⟨Or.inl rfl, ?_⟩ | refine ⟨Or.inr ⟨_, rfl⟩, ?_⟩ | refine ⟨fun _ => ?_, fun h => absurd h (by decide)⟩ | refine ⟨fun h => absurd h (by decide), fun _ => ?_⟩)
      refine mg_cv (k3) (by omega) ?_
      refine ⟨fun q => absurd q (mg_n1 (by omega)), fun _ => ?_⟩
      repeat (first | refine ⟨_, mg_Fs rfl rfl, ?_⟩ | refine ⟨Or.inl rfl, ?_⟩ | refine ⟨Or.inr ⟨_, rfl⟩, ?_⟩ | refine ⟨fun _ => ?_, fun h => absurd h (by decide)⟩ | refine ⟨fun h => absurd h (by decide), fun _ => ?_⟩)
      refine mg_cv (r212 d hk 4) (by omega) ?_
      exact ⟨Or.inr rfl, rfl, rfl, rfl⟩
theorem r222y (d : Nat) (hV : rV9 G A) (hN : rIn G l) (hk : rk G l p) (hp : p ≤ l.length) (h : k_nm l p = true) (h2 : t_nw A l p = true) : mg_m (mg_KM scr t) (d + 8) 222 [.ref 148] G (mg_v (.int 1) G) := by
  obtain ⟨h8, h12, hv, hf, hvn, hfn⟩ := hV
  have h1 := k_nm_1 h
  have k1 := r217 (scr := scr) (t := t) d hN hk hp
  rw [h] at k1
  have k2 : mg_m (mg_KM scr t) (d + 2) 219 [.ref 148] G (mg_v (.int (a_oi (k_v A l p))) G) := r219 d hN hk hp h1 hv h8 hvn
  have k3 : mg_m (mg_KM scr t) (d + 2) 220 [.ref 148] G (mg_v (.int (a_oi (k_f A l p))) G) := r220 d hN hk hp h1 hf h12 hfn
  have ev : k_v A l p = none := by
    cases ev : k_v A l p with
    | none => rfl
    | some v => unfold t_nw at h2; rw [ev] at h2; cases h2
  have ef : k_f A l p = none := by
    cases ef : k_f A l p with
    | none => rfl
    | some v => unfold t_nw at h2; rw [ev, ef] at h2; cases h2
  rw [ev] at k2
  rw [ef] at k3
  refine mg_me [] 60 my_222 ms_222 (Nat.le_of_ble_eq_true rfl) ?_
  repeat (first | refine ⟨_, mg_Fs rfl rfl, ?_⟩ | refine ⟨Or.inl rfl, ?_⟩ | refine ⟨Or.inr ⟨_, rfl⟩, ?_⟩ | refine ⟨fun _ => ?_, fun h => absurd h (by decide)⟩ | refine ⟨fun h => absurd h (by decide), fun _ => ?_⟩)
  refine mg_cv (k1) (by omega) ?_
  refine ⟨fun _ => ?_, fun q => absurd q (by decide)⟩
  repeat (first | refine ⟨_, mg_Fs rfl rfl, ?_⟩ | refine ⟨Or.inl rfl, ?_⟩ | refine ⟨Or.inr ⟨_, rfl⟩, ?_⟩ | refine ⟨fun _ => ?_, fun h => absurd h (by decide)⟩ | refine ⟨fun h => absurd h (by decide), fun _ => ?_⟩)
  refine mg_cv (k2) (by omega) ?_
  refine ⟨fun q => absurd rfl q, fun _ => ?_⟩
  repeat (first | refine ⟨_, mg_Fs rfl rfl, ?_⟩ | refine ⟨Or.inl rfl, ?_⟩ | refine ⟨Or.inr ⟨_, rfl⟩, ?_⟩ | refine ⟨fun _ => ?_, fun h => absurd h (by decide)⟩ | refine ⟨fun h => absurd h (by decide), fun _ => ?_⟩)
  refine mg_cv (k3) (by omega) ?_
  exact ⟨fun _ => ⟨Or.inr rfl, rfl, rfl, rfl⟩, fun q => absurd rfl q⟩
/-- a name is kept -/
theorem r221 (d : Nat) (hN : rIn G l) (hk : rk G l p) (hp : p ≤ l.length) (h1 : k_K l p = 1) {at' : Nat} (hat : at' + 8 ≤ 2232) : mg_m (mg_KM scr t) (d + 1) 221 [.ref 148, .int (Int32.ofNat at')] G (fun o q G' => o = .inl none ∧ q = 0 ∧ ∃ f, G' = gM G 149 f ∧ rNm G' at' (k_W l p) ∧ ∀ j, ¬ (at' ≤ j ∧ j < at' + 8) → f j = G.1 149 j) := by
  obtain ⟨⟨hw1, hw2⟩, hw3, hw4⟩ := k_W_nm hp h1
  have hSE := k_E_ge l p
  have hE := k_E_le hp
  have hl6 := hN.2.1
  have e0 : Int32.ofNat (k_E l p) - Int32.ofNat (k_S l p) = Int32.ofNat (k_W l p).length := by
    rw [sub_ofN hSE, hw4, Nat.add_sub_cancel_left]
  have g0 : ∀ x, mg_sI G 149 at' x = gM G 149 (mg_u (G.1 149) at' x) := fun x => by
    have := gM_u G 149 at' (G.1 149) x
    rwa [mg_u_id] at this
  refine mg_me [20] 60 my_221 ms_221 (Nat.le_of_ble_eq_true rfl) ?_
  repeat (first | refine ⟨_, mg_Fs rfl rfl, ?_⟩ | refine ⟨Or.inl rfl, ?_⟩ | refine ⟨Or.inr ⟨_, rfl⟩, ?_⟩ | refine ⟨fun _ => ?_, fun h => absurd h (by decide)⟩ | refine ⟨fun h => absurd h (by decide), fun _ => ?_⟩)
  refine ⟨_, mg_Fe hk.1 rfl rfl, _, mg_Fe hk.2.2.1 rfl rfl, 2232, at', rfl, mg_ixN (by omega), by omega, ?_⟩
  have hG1 : mg_sI G 149 at' (Int32.ofNat (k_E l p) - Int32.ofNat (k_S l p)) = gM G 149 (mg_u (G.1 149) at' (Int32.ofNat (k_W l p).length)) := by rw [e0, g0]
  refine ⟨_, mg_Fe hk.2.2.1 rfl rfl, ?_⟩
  refine mg_loop (k_W l p).length (fun k L G' => L = [some (.ref 148), some (.int (Int32.ofNat at')), some (.int (Int32.ofNat (k_S l p + k)))] ∧ ∃ f, G' = gM G 149 f ∧ f at' = Int32.ofNat (k_W l p).length ∧ (∀ i c, i < k → (k_W l p)[i]? = some c → f (at' + 1 + i) = Int32.ofNat c) ∧ ∀ j, ¬ (at' ≤ j ∧ j < at' + 8) → f j = G.1 149 j) ?_ ?_ _ _ ⟨rfl, _, hG1, mg_u_eq _ _ _, fun i c hi => absurd hi (Nat.not_lt_zero _), fun j hj => mg_u_ne _ _ (by omega)⟩
  · rintro k L G' hk2 ⟨rfl, f, rfl, f1, f2, f3⟩ ih
    obtain ⟨c, c1, c2, c3, c4⟩ := k_W_at hp h1 (i := k) (by omega)
    have hb := (hN.2.2 _ _ c1).1
    refine mg_go [20] 60 20 ms_221 ?_
    refine ⟨_, mg_Fe hk.1 rfl rfl, fun q => absurd q (mg_nle (by omega) (by omega)), fun _ => ?_⟩
    repeat (first | refine ⟨_, mg_Fs rfl rfl, ?_⟩ | refine ⟨Or.inl rfl, ?_⟩ | refine ⟨Or.inr ⟨_, rfl⟩, ?_⟩ | refine ⟨fun _ => ?_, fun h => absurd h (by decide)⟩ | refine ⟨fun h => absurd h (by decide), fun _ => ?_⟩)
    refine ⟨_, mg_Fe hk.2.2.1 rfl rfl, _, mg_Fs rfl rfl, 600, _, k_S l p + k, mg_Ai rfl (by decide), mg_ixN (by omega), by omega, ?_⟩
    have e1 : (gM G 149 f).1 152 (k_S l p + k) = Int32.ofNat c := (gM_na G f (show (152 : Nat) ≠ 149 by decide) _).trans hb
    rw [e1]
    refine ⟨2232, at' + 1 + k, rfl, mg_ixE ?_ (by omega), by omega, ih _ _ ⟨by rw [mg_inc (k_S l p + k)]; rfl, mg_u f (at' + 1 + k) (Int32.ofNat c), gM_u G 149 (at' + 1 + k) f _, (mg_u_ne _ _ (by omega)).trans f1, fun i c' hi hc' => ?_, fun j hj => (mg_u_ne _ _ (by omega)).trans (f3 j hj)⟩⟩
    · show Int32.ofNat at' + Int32.ofInt 1 + Int32.ofNat (k_S l p + k) - Int32.ofNat (k_S l p) = _
      rw [show Int32.ofNat at' + Int32.ofInt 1 + Int32.ofNat (k_S l p + k) = Int32.ofNat (at' + 1 + (k_S l p + k)) from by rw [mg_inc, mg_addN], sub_ofN (by omega)]
      congr 1
      omega
    · by_cases e : i = k
      · subst e
        rw [c2] at hc'
        cases hc'
        exact mg_u_eq _ _ _
      · exact (mg_u_ne _ _ (by omega)).trans (f2 i c' (by omega) hc')
  · rintro L G' ⟨rfl, f, rfl, f1, f2, f3⟩
    refine mg_go [20] 60 20 ms_221 ?_
    refine ⟨_, mg_Fe hk.1 rfl rfl, fun _ => ?_, fun q => absurd q (mg_nlt (by omega) (by omega))⟩
    exact ⟨rfl, rfl, f, rfl, ⟨(gM_at G 149 f at').trans f1, fun i c hi => (gM_at G 149 f _).trans (f2 i c (List.getElem?_eq_some_iff.mp hi).1 hi)⟩, f3⟩
/-- the function's table and number -/
theorem r242l (d : Nat) {T : a_T} {w : List Nat} (hI : rI G A) (hK : cRow G 164 0 4 T) (h11 : aF A < 12) (hp : a_per (aV A) T) (hN : rNm G (90 + 8 * aF A) w) (hw : a_nm7 w) {Q : mg_Q} (hQ : ∀ G', rI G' (addF A w T) → rPz G G' → Q (.inl (some (.int 1))) 0 G') : mg_wp (mg_KM scr t) mc_242 d 79 [some (.ref 148), some (.int (Int32.ofNat (aF A))), some (.int (Int32.ofNat 0))] [] G Q := by
  have h8 := hI.v8
  refine mg_loop 4 (fun k L G' => L = [some (.ref 148), some (.int (Int32.ofNat (aF A))), some (.int (Int32.ofNat k))] ∧ G' = cW G 150 (aF A) k (a_wd T)) ?_ ?_ _ _ ⟨rfl, (cW_0 _ _ _ _).symm⟩
  · rintro k L G' hk ⟨rfl, rfl⟩ ih
    refine mg_go [79] 60 79 ms_242 ?_
    refine ⟨fun h => absurd h (mg_nle (b := 4) hk (by decide)), fun _ => ⟨_, mg_Fs rfl rfl, _, mg_Fs rfl rfl, 1600, _, k, mg_Al rfl (by decide), mg_ixN (by omega), by omega, ?_⟩⟩
    rw [show (cW G 150 (aF A) k (a_wd T)).2.1 164 k = a_wd T k from by
      rw [cW_ne _ _ _ _ _ _ (by decide)]
      have := hK k hk
      rwa [Nat.mul_zero, Nat.zero_add] at this]
    exact ⟨576, 4 * aF A + k, rfl, mg_ixE (mg_4a _ _) (by omega), by omega, ih _ _ ⟨by rw [← mg_inc k], cW_s _ _ _ _ _⟩⟩
  · rintro L G' ⟨rfl, rfl⟩
    refine mg_go [79] 60 79 ms_242 ?_
    refine ⟨fun _ => ⟨_, mg_Fs rfl rfl, 2232, 1, rfl, ⟨by decide, by decide⟩, by decide, Or.inr rfl, ?_⟩, fun h => absurd h (by decide)⟩
    have h0 : r0 G (mg_sI (cW G 150 (aF A) 4 (a_wd T)) 149 1 (Int32.ofNat (aF A) + Int32.ofInt 1)) := (r0.w G (by omega)).tr (r0.i _ _ (by omega))
    have ne : ∀ j, j ≠ 1 → (mg_sI (cW G 150 (aF A) 4 (a_wd T)) 149 1 (Int32.ofNat (aF A) + Int32.ofInt 1)).1 149 j = G.1 149 j := fun j j1 => mg_sI_ne _ _ _ _ j1
    refine hQ _ ⟨fun v hv => (congrFun (h0.1.2.1 154 (by decide)) v).trans (hI.1 v hv), bA0 ?_ ?_ ?_ ?_ ?_ ?_ ?_ ?_, addF_W hI.W h11 hw hp⟩ h0.z
    · rw [ne 0 (by omega)]
      exact hI.v
    · rw [mg_sI_eq]
      exact mg_inc (aF A)
    · intro j hj
      have hj : j < aV A := hj
      rw [ne _ (by omega)]
      exact hI.o hj
    · intro j hj
      have hj : j < aV A := hj
      rw [ne _ (by omega)]
      exact hI.c hj
    · intro j hj
      have hj : j < aV A := hj
      rw [ne _ (by omega)]
      exact hI.p hj
    · intro j hj
      have hj : j < aV A := hj
      exact ⟨by rw [ne _ (by omega)]; exact (hI.vn hj).1, fun i c hi => by rw [ne _ (by omega)]; exact (hI.vn hj).2 i c hi⟩
    · intro j hj
      have hj : j < aF A + 1 := hj
      show rNm _ _ (mg_u (aFN A) (aF A) w j)
      by_cases e : j = aF A
      · subst e
        rw [mg_u_eq]
        exact ⟨by rw [ne _ (by omega)]; exact hN.1, fun i c hi => by rw [ne _ (by omega)]; exact hN.2 i c hi⟩
      · rw [mg_u_ne _ _ e]
        have hj2 : j < aF A := by omega
        exact ⟨by rw [ne _ (by omega)]; exact (hI.fn hj2).1, fun i c hi => by rw [ne _ (by omega)]; exact (hI.fn hj2).2 i c hi⟩
    · intro j hj
      have hj : j < aF A + 1 := hj
      show a_tb (cW G 150 (aF A) 4 (a_wd T)) j = mg_u (aT A) (aF A) T j
      by_cases e : j = aF A
      · subst e
        rw [mg_u_eq]
        unfold a_tb
        rw [show (cW G 150 (aF A) 4 (a_wd T)).2.1 150 (4 * aF A) = a_wd T 0 from cW_in G 150 (aF A) 4 (a_wd T) 0 (by decide), cW_in G 150 (aF A) 4 (a_wd T) 1 (by decide), cW_in G 150 (aF A) 4 (a_wd T) 2 (by decide), cW_in G 150 (aF A) 4 (a_wd T) 3 (by decide)]
        rfl
      · rw [mg_u_ne _ _ e, ← hI.t (show j < aF A by omega)]
        unfold a_tb
        rw [cW_at _ _ _ _ _ _ (by omega), cW_at _ _ _ _ _ _ (by omega), cW_at _ _ _ _ _ _ (by omega), cW_at _ _ _ _ _ _ (by omega)]
end RM
