/-! more fuel, the same run -/
theorem mm_step_call {P : mm_P} {call call' : Nat → List Value → mm_H → Option mm_R} (hc : ∀ y A σ r, call y A σ = some r → call' y A σ = some r) {op : mm_Op} {pc len : Nat} {L : mm_L} {S : List Value} {σ : mm_H} {n : mm_N} (h : mm_step P call op pc len L S σ = some n) : mm_step P call' op pc len L S σ = some n := by
  unfold mm_step at h ⊢
  split at h
  case h_16 =>
    split at h
    · rename_i e
      split at h
      · rename_i e2
        split at h
        · rename_i hcall
          simp only [e, e2, hc _ _ _ _ hcall, if_true]
          exact h
        · cases h
      · cases h
    · cases h
  all_goals exact h
theorem mm_go_fuel {P : mm_P} {call call' : Nat → List Value → mm_H → Option mm_R} (hc : ∀ y A σ r, call y A σ = some r → call' y A σ = some r) {code : mm_Code} : ∀ {n n' pc : Nat} {L : mm_L} {S : List Value} {σ : mm_H} {r : mm_R}, mm_go P call code n pc L S σ = some r → n ≤ n' → mm_go P call' code n' pc L S σ = some r
  | 0, _, _, _, _, _, _, h, _ => by cases h
  | n + 1, n', pc, L, S, σ, r, h, hn => by
    obtain ⟨m, rfl⟩ : ∃ m, n' = m + 1 := ⟨n' - 1, by omega⟩
    simp only [mm_go] at h ⊢
    split at h
    · split at h
      · rename_i hs
        simp only [mm_step_call hc hs]
        exact mm_go_fuel hc h (by omega)
      · rename_i hs
        simp only [mm_step_call hc hs]
        exact h
      · cases h
    · cases h
theorem mm_run_fuel {P : mm_P} {M : Nat → Option (mm_Code × Nat)} {N N' : Nat} (hN : N ≤ N') : ∀ {d d' y : Nat} {A : List Value} {σ : mm_H} {r : mm_R}, mm_run P M N d y A σ = some r → d ≤ d' → mm_run P M N' d' y A σ = some r
  | 0, _, _, _, _, _, h, _ => by cases h
  | d + 1, d', y, A, σ, r, h, hd => by
    obtain ⟨m, rfl⟩ : ∃ m, d' = m + 1 := ⟨d' - 1, by omega⟩
    simp only [mm_run] at h ⊢
    split at h
    · split at h
      · rename_i hlen
        rw [if_pos hlen]
        exact mm_go_fuel (fun y A σ r h2 => mm_run_fuel (d := d) (d' := m) hN h2 (by omega)) h hN
      · cases h
    · cases h
/-! K: the script's length and ints, the shape. What is asked of an end: its value or exception, how many were thrown on the way, the memory -/
abbrev mg_K : Type := (Nat × (Nat → Int32)) × List mg_S
abbrev mg_Q : Type := (Option Value ⊕ String) → Nat → mg_G → Prop
def mg_P (K : mg_K) : mm_P := mm_PP K.1.1 K.1.2
def mg_M (y : Nat) : Option (mm_Code × Nat) := (mm_MT y).map (fun t => (t.1, t.2.1))
def mg_thr (k : Nat) (r : Bool × Nat × Nat) : Bool × Nat × Nat := match k with
  | 0 => r
  | j + 1 => (false, r.2.1 + (j + 1), r.2.2 + 6 * (j + 1))
theorem mg_thr_add (a b : Nat) (r : Bool × Nat × Nat) : mg_thr a (mg_thr b r) = mg_thr (a + b) r := by
  cases a with
  | zero => rw [Nat.zero_add]; rfl
  | succ a => cases b with
    | zero => rfl
    | succ b =>
      rw [show a + 1 + (b + 1) = (a + 1 + b) + 1 by omega]
      show (false, r.2.1 + (b + 1) + (a + 1), r.2.2 + 6 * (b + 1) + 6 * (a + 1)) = (false, r.2.1 + (a + 1 + b + 1), r.2.2 + 6 * (a + 1 + b + 1))
      rw [show r.2.1 + (b + 1) + (a + 1) = r.2.1 + (a + 1 + b + 1) by omega, show r.2.2 + 6 * (b + 1) + 6 * (a + 1) = r.2.2 + 6 * (a + 1 + b + 1) by omega]
def mg_h (K : mg_K) (G : mg_G) (r : Bool × Nat × Nat) : mm_H := (mg_k G 0 K.2, r)
/-- from here, in the code c, calls at depth d: the end is as Q asks -/
def mg_wp (K : mg_K) (c : mm_Code) (d pc : Nat) (L : mm_L) (S : List Value) (G : mg_G) (Q : mg_Q) : Prop := ∀ r, ∃ N n o k G', mm_go (mg_P K) (mm_run (mg_P K) mg_M N d) c n pc L S (mg_h K G r) = some (o, mg_h K G' (mg_thr k r)) ∧ Q o k G'
/-- method y over A, at depth d -/
def mg_m (K : mg_K) (d y : Nat) (A : List Value) (G : mg_G) (Q : mg_Q) : Prop := ∀ r, ∃ N o k G', mm_run (mg_P K) mg_M N d y A (mg_h K G r) = some (o, mg_h K G' (mg_thr k r)) ∧ Q o k G'
theorem mg_m_mono {K : mg_K} {d d' y : Nat} {A : List Value} {G : mg_G} {Q Q' : mg_Q} (h : mg_m K d y A G Q) (hd : d ≤ d') (hq : ∀ o k G', Q o k G' → Q' o k G') : mg_m K d' y A G Q' := by
  intro r
  obtain ⟨N, o, k, G', h1, h2⟩ := h r
  exact ⟨N, o, k, G', mm_run_fuel (Nat.le_refl N) h1 hd, hq _ _ _ h2⟩
theorem mg_wp_mono {K : mg_K} {c : mm_Code} {d pc : Nat} {L : mm_L} {S : List Value} {G : mg_G} {Q Q' : mg_Q} (h : mg_wp K c d pc L S G Q) (hq : ∀ o k G', Q o k G' → Q' o k G') : mg_wp K c d pc L S G Q' := by
  intro r
  obtain ⟨N, n, o, k, G', h1, h2⟩ := h r
  exact ⟨N, n, o, k, G', h1, hq _ _ _ h2⟩
theorem mg_in {K : mg_K} {d y nL : Nat} {c : mm_Code} {A : List Value} {G : mg_G} {Q : mg_Q} (hy : mg_M y = some (c, nL)) (hA : (mm_args A).length ≤ nL) (h : mg_wp K c d 0 (mm_entry A nL) [] G Q) : mg_m K (d + 1) y A G Q := by
  intro r
  obtain ⟨N, n, o, k, G', h1, h2⟩ := h r
  refine ⟨max N n, o, k, G', ?_, h2⟩
  show (match mg_M y with
    | some (code, nL) => if (mm_args A).length ≤ nL then mm_go (mg_P K) (mm_run (mg_P K) mg_M (max N n) d) code (max N n) 0 (mm_entry A nL) [] (mg_h K G r) else none
    | none => none) = _
  rw [hy]
  show (if (mm_args A).length ≤ nL then mm_go (mg_P K) (mm_run (mg_P K) mg_M (max N n) d) c (max N n) 0 (mm_entry A nL) [] (mg_h K G r) else none) = _
  rw [if_pos hA]
  exact mm_go_fuel (fun y A σ r h3 => mm_run_fuel (Nat.le_max_left N n) h3 (Nat.le_refl d)) h1 (Nat.le_max_right N n)
/-- one step without a call -/
theorem mg_st0 {K : mg_K} {c : mm_Code} {d pc len : Nat} {op : mm_Op} {L L' : mm_L} {S S' : List Value} {pc' : Nat} {G G' : mg_G} {Q : mg_Q} (hl : c.lookup pc = some (len, op)) (hs : ∀ call r, mm_step (mg_P K) call op pc len L S (mg_h K G r) = some (.inl (pc', L', S', mg_h K G' r))) (h : mg_wp K c d pc' L' S' G' Q) : mg_wp K c d pc L S G Q := by
  intro r
  obtain ⟨N, n, o, k, G2, h1, h2⟩ := h r
  refine ⟨N, n + 1, o, k, G2, ?_, h2⟩
  simp only [mm_go, hl, hs]
  exact h1
/-- one step that ends the method -/
theorem mg_st1 {K : mg_K} {c : mm_Code} {d pc len : Nat} {op : mm_Op} {L : mm_L} {S : List Value} {G : mg_G} {Q : mg_Q} {o : Option Value ⊕ String} {k : Nat} (hl : c.lookup pc = some (len, op)) (hs : ∀ call r, mm_step (mg_P K) call op pc len L S (mg_h K G r) = some (.inr (o, mg_h K G (mg_thr k r)))) (h : Q o k G) : mg_wp K c d pc L S G Q := by
  intro r
  refine ⟨0, 1, o, k, G, ?_, h⟩
  simp only [mm_go, hl, hs]
/-- what a call's end leads to -/
def mg_bk (K : mg_K) (hs : List (String × Nat × Nat × Nat)) (pc : Nat) (L : mm_L) (rest : List Value) (w : Nat → mm_L → List Value → mg_G → mg_Q → Prop) (Q : mg_Q) : mg_Q := fun o k G' => match o with
  | .inl v => w (pc + 3) L (v.toList ++ rest) G' (fun o2 k2 G2 => Q o2 (k2 + k) G2)
  | .inr E => (match hs with
    | [] => Q (.inr E) k G'
    | _ => (match hs.lookup E with
      | some (h, len, i) => i < L.length ∧ w (h + len) ((mm_kl L i).set i none) [] G' (fun o2 k2 G2 => Q o2 (k2 + k) G2)
      | none => False))
/-- the receiver's class, by the shape -/
def mg_isr (K : mg_K) (ci : Nat) (A : List Value) : Prop := match A with
  | .ref a :: _ => if ci = 100 then (if a < 1000000 then ∃ T, K.2[a]? = some (.inr (11, T)) else ((mg_P K).2.1 a 0).isSome = true) else ∃ T, K.2[a]? = some (.inr (ci, T))
  | _ => False
theorem mg_isr_ok {K : mg_K} {G : mg_G} {r : Bool × Nat × Nat} {ci : Nat} {A : List Value} (h : mg_isr K ci A) : mm_isr (mg_P K) (mg_h K G r) ci A = true := by
  unfold mg_isr at h
  split at h
  · rename_i a A9
    unfold mm_isr
    by_cases e : ci = 100
    · rw [if_pos e] at h
      simp only [if_pos e]
      by_cases e2 : a < 1000000
      · rw [if_pos e2] at h
        obtain ⟨T, hT⟩ := h
        simp only [if_pos e2]
        show (match (mg_k G 0 K.2)[a]? with
          | some (.inr (c, _)) => c == 11
          | _ => false) = true
        rw [mg_k_at, hT]
        rfl
      · rw [if_neg e2] at h
        simp only [if_neg e2]
        exact h
    · rw [if_neg e] at h
      obtain ⟨T, hT⟩ := h
      simp only [if_neg e]
      show (match (mg_k G 0 K.2)[a]? with
        | some (.inr (c, _)) => c == ci
        | _ => false) = true
      rw [mg_k_at, hT]
      show (ci == ci) = true
      exact beq_self_eq_true ci
  · cases h
theorem mg_stc {K : mg_K} {c : mm_Code} {d pc len a b e1 e2 : Nat} {i : Instr} {hs : List (String × Nat × Nat × Nat)} {L : mm_L} {S A rest : List Value} {G : mg_G} {Q : mg_Q} (hl : c.lookup pc = some (len, 15, a, b, e1, e2, i, hs)) (ht : mm_take b S = some (A, rest)) (hi : e2 = 1 ∨ mg_isr K e1 A) (h : mg_m K d a A G (mg_bk K hs pc L rest (mg_wp K c d) Q)) : mg_wp K c d pc L S G Q := by
  intro r
  obtain ⟨N, o, k, G', h1, h2⟩ := h r
  have hi2 : e2 = 1 ∨ mm_isr (mg_P K) (mg_h K G r) e1 A = true := hi.imp id mg_isr_ok
  have key : ∀ N', N ≤ N' → mm_step (mg_P K) (mm_run (mg_P K) mg_M N' d) (15, a, b, e1, e2, i, hs) pc len L S (mg_h K G r) = mm_back hs pc L rest (o, mg_h K G' (mg_thr k r)) := by
    intro N' hN
    simp only [mm_step, ht, if_pos hi2, mm_run_fuel hN h1 (Nat.le_refl d)]
  cases o with
  | inl v =>
    obtain ⟨N2, n2, o2, k2, G2, g1, g2⟩ := h2 (mg_thr k r)
    refine ⟨max N N2, n2 + 1, o2, k2 + k, G2, ?_, g2⟩
    rw [mg_thr_add] at g1
    simp only [mm_go, hl, key _ (Nat.le_max_left N N2), mm_back]
    exact mm_go_fuel (fun y A σ r h3 => mm_run_fuel (Nat.le_max_right N N2) h3 (Nat.le_refl d)) g1 (Nat.le_refl _)
  | inr E =>
    cases hs with
    | nil =>
      refine ⟨N, 1, .inr E, k, G', ?_, h2⟩
      simp only [mm_go, hl, key _ (Nat.le_refl N), mm_back]
    | cons q hs =>
      have h3 : (match (q :: hs).lookup E with
        | some (h, len, i) => i < L.length ∧ mg_wp K c d (h + len) ((mm_kl L i).set i none) [] G' (fun o2 k2 G2 => Q o2 (k2 + k) G2)
        | none => False) := h2
      split at h3
      · rename_i hx len9 i9 hlk
        obtain ⟨N2, n2, o2, k2, G2, g1, g2⟩ := h3.2 (mg_thr k r)
        refine ⟨max N N2, n2 + 1, o2, k2 + k, G2, ?_, g2⟩
        rw [mg_thr_add] at g1
        simp only [mm_go, hl, key _ (Nat.le_max_left N N2), mm_back, hlk, if_pos h3.1]
        exact mm_go_fuel (fun y A σ r h3 => mm_run_fuel (Nat.le_max_right N N2) h3 (Nat.le_refl d)) g1 (Nat.le_refl _)
      · exact h3.elim
/-! what is read and written, by the shape -/
def mg_ix (j : Int32) (i : Nat) : Prop := ¬ j < 0 ∧ j.toNatClampNeg = i
/-- a field's value -/
def mg_F (K : mg_K) (G : mg_G) (a c k : Nat) (v : Value) : Prop := ∃ T, K.2[a]? = some (.inr (c, T)) ∧ (T[k]? = some (some v) ∨ (T[k]? = some none ∧ v = G.2.2.2.2 a k))
/-- the array at a: its type, length and what it holds -/
def mg_A (K : mg_K) (G : mg_G) (a t n : Nat) (f : (Nat → Int32) ⊕ (Nat → Int64) ⊕ (Nat → UInt32) ⊕ (Nat → UInt64) ⊕ (Nat → Option Nat)) : Prop := (a < 1000000 ∧ K.2[a]? = some (.inl (t, n)) ∧ f = mg_t G a t) ∨ (¬ a < 1000000 ∧ mm_old K.1.1 K.1.2 a = some (t, n, f))
theorem mg_A_ok {K : mg_K} {G : mg_G} {r : Bool × Nat × Nat} {a t n : Nat} {f : (Nat → Int32) ⊕ (Nat → Int64) ⊕ (Nat → UInt32) ⊕ (Nat → UInt64) ⊕ (Nat → Option Nat)} (h : mg_A K G a t n f) : mm_arr (mg_P K).1 (mg_h K G r) a = some (t, n, f) := by
  rcases h with ⟨h1, h2, h3⟩ | ⟨h1, h2⟩
  · unfold mm_arr
    rw [if_pos h1]
    show (match (mg_k G 0 K.2)[a]? with
      | some (.inl x) => some x
      | _ => none) = _
    rw [mg_k_at, h2, h3]
    show some (t, n, mg_t G (0 + a) t) = _
    rw [Nat.zero_add]
  · unfold mm_arr
    rw [if_neg h1]
    exact h2
theorem mg_F_ok {K : mg_K} {G : mg_G} {r : Bool × Nat × Nat} {a c k : Nat} {v : Value} {S : List Value} (h : mg_F K G a c k v) : mm_getf (mg_h K G r) c k (.ref a :: S) = some (v :: S) := by
  obtain ⟨T, h1, h2⟩ := h
  have h3 : (mg_f (G.2.2.2.2 (0 + a)) 0 T)[k]? = some v := by
    rw [mg_f_at, Nat.zero_add, Nat.zero_add]
    exact h2
  unfold mm_getf
  show (match (mg_k G 0 K.2)[a]? with
    | some (.inr (c9, fs)) => if c9 = c then (match fs[k]? with
      | some v => some (v :: S)
      | none => none) else none
    | _ => none) = _
  rw [mg_k_at, h1]
  show (if c = c then (match (mg_f (G.2.2.2.2 (0 + a)) 0 T)[k]? with
      | some v => some (v :: S)
      | none => none) else none) = _
  rw [if_pos rfl, h3]
