/-! THE START: what such a run leaves, as a memory of a fixed shape -/
def gz_I (c : Option mm_C) : Nat → Int32 := match c with
  | some (.inl (_, _, .inl f)) => f
  | _ => fun _ => 0
def gz_J (c : Option mm_C) : Nat → Int64 := match c with
  | some (.inl (_, _, .inr (.inl f))) => f
  | _ => fun _ => 0
def gz_D (c : Option mm_C) : Nat → UInt64 := match c with
  | some (.inl (_, _, .inr (.inr (.inr (.inl f))))) => f
  | _ => fun _ => 0
def gz_R (c : Option mm_C) : Nat → Option Nat := match c with
  | some (.inl (_, _, .inr (.inr (.inr (.inr f))))) => f
  | _ => fun _ => none
def gz_F (c : Option mm_C) : Nat → Value := match c with
  | some (.inr (_, f)) => fun k => (f[k]?).getD .null
  | _ => fun _ => .null
def gz_G (G : mg_G) (m : Nat) (T : List mm_C) : mg_G :=
  (fun a => if a < m then G.1 a else gz_I T[a - m]?, fun a => if a < m then G.2.1 a else gz_J T[a - m]?, fun a => if a < m then G.2.2.1 a else gz_D T[a - m]?, fun a => if a < m then G.2.2.2.1 a else gz_R T[a - m]?, fun a => if a < m then G.2.2.2.2 a else gz_F T[a - m]?)
def gz_v : List (Option Value) → List Value → Bool
  | [], [] => true
  | none :: F, _ :: f => gz_v F f
  | some v :: F, w :: f => decide (v = w) && gz_v F f
  | _, _ => false
def gz_c (s : mg_S) (c : mm_C) : Bool := match s, c with
  | .inl (t, n), .inl (t', n', .inl _) => Nat.beq t t' && Nat.beq n n' && (Nat.beq t 0 || Nat.beq t 2 || Nat.beq t 3)
  | .inl (t, n), .inl (t', n', .inr (.inl _)) => Nat.beq t t' && Nat.beq n n' && Nat.beq t 1
  | .inl (t, n), .inl (t', n', .inr (.inr (.inr (.inl _)))) => Nat.beq t t' && Nat.beq n n' && Nat.beq t 4
  | .inl (t, n), .inl (t', n', .inr (.inr (.inr (.inr _)))) => Nat.beq t t' && Nat.beq n n' && Nat.beq t 5
  | .inr (c, F), .inr (c', f) => Nat.beq c c' && gz_v F f
  | _, _ => false
def gz_k : List mg_S → List mm_C → Bool
  | [], [] => true
  | s :: r, c :: q => gz_c s c && gz_k r q
  | _, _ => false
theorem gz_f : ∀ {F : List (Option Value)} {f : List Value} {g : Nat → Value} {k : Nat}, gz_v F f = true → (∀ j v, f[j]? = some v → g (k + j) = v) → mg_f g k F = f
  | [], [], _, _, _, _ => rfl
  | [], _ :: _, _, _, h, _ => by cases h
  | none :: F, [], _, _, h, _ => by cases h
  | some v :: F, [], _, _, h, _ => by cases h
  | none :: F, w :: f, g, k, h, hg => by
    have h2 : gz_v F f = true := h
    show g k :: mg_f g (k + 1) F = w :: f
    rw [show g k = w from hg 0 w rfl, gz_f h2 (fun j v hj => by rw [show k + 1 + j = k + (j + 1) by omega]; exact hg (j + 1) v hj)]
  | some v :: F, w :: f, g, k, h, hg => by
    have h1 := (Bool.and_eq_true _ _).mp (show (decide (v = w) && gz_v F f) = true from h)
    show v :: mg_f g (k + 1) F = w :: f
    rw [of_decide_eq_true h1.1, gz_f h1.2 (fun j v hj => by rw [show k + 1 + j = k + (j + 1) by omega]; exact hg (j + 1) v hj)]
theorem gz_c_ok {G : mg_G} {m i : Nat} {T : List mm_C} {s : mg_S} {c : mm_C} (h : gz_c s c = true) (hT : T[i]? = some c) : mg_c (gz_G G m T) (m + i) s = c := by
  have e : T[m + i - m]? = some c := by rw [show m + i - m = i by omega]; exact hT
  have hn : ¬ m + i < m := by omega
  unfold gz_c at h
  split at h
  · rename_i t n t' n' f
    simp only [Bool.and_eq_true] at h
    obtain ⟨⟨h1, h2⟩, h3⟩ := h
    cases Nat.eq_of_beq_eq_true h1
    cases Nat.eq_of_beq_eq_true h2
    have e1 : (gz_G G m T).1 (m + i) = f := by
      show (if m + i < m then _ else gz_I T[m + i - m]?) = f
      rw [if_neg hn, e]
      rfl
    have h4 : t = 0 ∨ t = 2 ∨ t = 3 := by
      simp only [Bool.or_eq_true] at h3
      rcases h3 with (h3 | h3) | h3
      · exact Or.inl (Nat.eq_of_beq_eq_true h3)
      · exact Or.inr (Or.inl (Nat.eq_of_beq_eq_true h3))
      · exact Or.inr (Or.inr (Nat.eq_of_beq_eq_true h3))
    show Sum.inl (t, n, mg_t (gz_G G m T) (m + i) t) = _
    rcases h4 with rfl | rfl | rfl <;> · show Sum.inl (_, n, Sum.inl ((gz_G G m T).1 (m + i))) = _; rw [e1]
  · rename_i t n t' n' f
    simp only [Bool.and_eq_true] at h
    obtain ⟨⟨h1, h2⟩, h3⟩ := h
    cases Nat.eq_of_beq_eq_true h1
    cases Nat.eq_of_beq_eq_true h2
    cases Nat.eq_of_beq_eq_true h3
    have e1 : (gz_G G m T).2.1 (m + i) = f := by
      show (if m + i < m then _ else gz_J T[m + i - m]?) = f
      rw [if_neg hn, e]
      rfl
    show Sum.inl (1, n, Sum.inr (Sum.inl ((gz_G G m T).2.1 (m + i)))) = _
    rw [e1]
  · rename_i t n t' n' f
    simp only [Bool.and_eq_true] at h
    obtain ⟨⟨h1, h2⟩, h3⟩ := h
    cases Nat.eq_of_beq_eq_true h1
    cases Nat.eq_of_beq_eq_true h2
    cases Nat.eq_of_beq_eq_true h3
    have e1 : (gz_G G m T).2.2.1 (m + i) = f := by
      show (if m + i < m then _ else gz_D T[m + i - m]?) = f
      rw [if_neg hn, e]
      rfl
    show Sum.inl (4, n, Sum.inr (Sum.inr (Sum.inr (Sum.inl ((gz_G G m T).2.2.1 (m + i)))))) = _
    rw [e1]
  · rename_i t n t' n' f
    simp only [Bool.and_eq_true] at h
    obtain ⟨⟨h1, h2⟩, h3⟩ := h
    cases Nat.eq_of_beq_eq_true h1
    cases Nat.eq_of_beq_eq_true h2
    cases Nat.eq_of_beq_eq_true h3
    have e1 : (gz_G G m T).2.2.2.1 (m + i) = f := by
      show (if m + i < m then _ else gz_R T[m + i - m]?) = f
      rw [if_neg hn, e]
      rfl
    show Sum.inl (5, n, Sum.inr (Sum.inr (Sum.inr (Sum.inr ((gz_G G m T).2.2.2.1 (m + i)))))) = _
    rw [e1]
  · rename_i c F c' f
    obtain ⟨h1, h2⟩ := (Bool.and_eq_true _ _).mp h
    cases Nat.eq_of_beq_eq_true h1
    have e1 : (gz_G G m T).2.2.2.2 (m + i) = fun k => (f[k]?).getD .null := by
      show (if m + i < m then _ else gz_F T[m + i - m]?) = _
      rw [if_neg hn, e]
      rfl
    show Sum.inr (c, mg_f ((gz_G G m T).2.2.2.2 (m + i)) 0 F) = _
    rw [e1, gz_f h2 (fun j v hj => by show (f[0 + j]?).getD .null = v; rw [Nat.zero_add, hj]; rfl)]
  · cases h
theorem gz_k_ok {G : mg_G} {m : Nat} {T : List mm_C} : ∀ {sh : List mg_S} {q : List mm_C} {j : Nat}, gz_k sh q = true → (∀ i, q[i]? = T[j + i]?) → mg_k (gz_G G m T) (m + j) sh = q
  | [], [], _, _, _ => rfl
  | [], _ :: _, _, h, _ => by cases h
  | _ :: _, [], _, h, _ => by cases h
  | s :: r, c :: q, j, h, hT => by
    have h1 := (Bool.and_eq_true _ _).mp (show (gz_c s c && gz_k r q) = true from h)
    show mg_c (gz_G G m T) (m + j) s :: mg_k (gz_G G m T) (m + (j + 1)) r = c :: q
    rw [gz_c_ok (G := G) (m := m) h1.1 (show T[j]? = some c from (hT 0).symm), gz_k_ok h1.2 (fun i => by rw [show j + 1 + i = j + (i + 1) by omega]; exact hT (i + 1))]
theorem gz_old {G : mg_G} {m : Nat} {T : List mm_C} : ∀ {pre : List mg_S} {k : Nat}, k + pre.length ≤ m → mg_k (gz_G G m T) k pre = mg_k G k pre
  | [], _, _ => rfl
  | s :: r, k, h => by
    have hk : k < m := by simp only [List.length_cons] at h; omega
    have e : mg_c (gz_G G m T) k s = mg_c G k s := by
      have e1 : (gz_G G m T).1 k = G.1 k := if_pos hk
      have e2 : (gz_G G m T).2.1 k = G.2.1 k := if_pos hk
      have e3 : (gz_G G m T).2.2.1 k = G.2.2.1 k := if_pos hk
      have e4 : (gz_G G m T).2.2.2.1 k = G.2.2.2.1 k := if_pos hk
      have e5 : (gz_G G m T).2.2.2.2 k = G.2.2.2.2 k := if_pos hk
      rcases s with ⟨t, n⟩ | ⟨c, F⟩
      · show Sum.inl (t, n, mg_t (gz_G G m T) k t) = Sum.inl (t, n, mg_t G k t)
        unfold mg_t
        rw [e1, e2, e3, e4]
      · show Sum.inr (c, mg_f ((gz_G G m T).2.2.2.2 k) 0 F) = Sum.inr (c, mg_f (G.2.2.2.2 k) 0 F)
        rw [e5]
    show mg_c (gz_G G m T) k s :: mg_k (gz_G G m T) (k + 1) r = mg_c G k s :: mg_k G (k + 1) r
    rw [e, gz_old (by simp only [List.length_cons] at h; omega)]
theorem mg_k_app (G : mg_G) : ∀ (a b : List mg_S) (k : Nat), mg_k G k (a ++ b) = mg_k G k a ++ mg_k G (k + a.length) b
  | [], _, _ => rfl
  | s :: r, b, k => by
    show mg_c G k s :: mg_k G (k + 1) (r ++ b) = mg_c G k s :: (mg_k G (k + 1) r ++ mg_k G (k + (r.length + 1)) b)
    rw [mg_k_app G r b (k + 1), show k + 1 + r.length = k + (r.length + 1) by omega]
theorem gz_h {scr : Nat × (Nat → Int32)} {G : mg_G} {pre sh : List mg_S} {T : List mm_C} {w : Bool × Nat × Nat} (h : gz_k sh T = true) : (mg_k G 0 pre ++ T, w) = mg_h (scr, pre ++ sh) (gz_G G pre.length T) w := by
  show _ = (mg_k (gz_G G pre.length T) 0 (pre ++ sh), w)
  rw [mg_k_app, gz_old (by omega), Nat.zero_add]
  have := gz_k_ok (G := G) (m := pre.length) (T := T) (j := 0) h (fun i => by rw [Nat.zero_add])
  rw [Nat.add_zero] at this
  rw [this]
/-! the end of a run, of which Z holds -/
def ew (P : mm_P) (c : mm_Code) (d pc : Nat) (L : mm_L) (S : List Value) (σ : mm_H) (Z : mm_R → Prop) : Prop := ∃ N n r, mm_go P (mm_run P mg_M N d) c n pc L S σ = some r ∧ Z r
def gz_T (m : Nat) (e : Option mm_N) : List mm_C := match e with
  | some (.inl (_, _, _, σ)) => σ.1.drop m
  | _ => []
def gz_s (stop : Nat) (L : mm_L) (S : List Value) (w : Bool × Nat × Nat) (e : Option mm_N) : Bool := match e with
  | some (.inl (p, L', S', σ)) => decide (p = stop ∧ L' = L ∧ S' = S ∧ σ.2 = w)
  | _ => false
def gz_d (m : Nat) : List mm_C := List.replicate m (.inr (999, []))
theorem gz_dd (m : Nat) : fw_D (gz_d m) := fun a ha => by
  unfold gz_d at ha ⊢
  rw [List.length_replicate] at ha
  rw [List.getElem?_replicate, if_pos ha]
def fw_p0 (a : Nat) : Option (Nat × vp_A) := if a < 3000000 then none else mm_old 0 (fun _ => 0) a
theorem fw_old {L L' : Nat} {xs xs' : Nat → Int32} {a : Nat} (h : ¬ a < 3000000) : mm_old L xs a = mm_old L' xs' a := by
  unfold mm_old
  repeat rw [if_neg (by omega)]
theorem fw_p0_ok {L : Nat} {xs : Nat → Int32} : ∀ a y, fw_p0 a = some y → mm_old L xs a = some y := by
  intro a y h
  unfold fw_p0 at h
  split at h
  · cases h
  · rename_i h3
    rw [fw_old h3]
    exact h
def fw_P : mm_P := (fw_p0, mm_PQ)
/-- the start's pieces, over m older cells -/
def gz_e (c : mm_Code) (stop n pc : Nat) (L : mm_L) (S : List Value) (m : Nat) (T : List mm_C) (w : Bool × Nat × Nat) : Option mm_N := fw_go fw_P (fw_run fw_P mg_M 1500 20) c stop n pc L S (gz_d m ++ T, w)
theorem ew_till {K : mg_K} {c : mm_Code} {d stop n pc m : Nat} {L L1 : mm_L} {S S1 : List Value} {T0 X : List mm_C} {w0 w1 : Bool × Nat × Nat} {Z : mm_R → Prop} (hX : X.length = m) (hd : 20 ≤ d) (h : gz_s stop L1 S1 w1 (gz_e c stop n pc L S m T0 w0) = true) (hz : ew (mg_P K) c d stop L1 S1 (X ++ gz_T m (gz_e c stop n pc L S m T0 w0), w1) Z) : ew (mg_P K) c d pc L S (X ++ T0, w0) Z := by
  have hl : (gz_d m).length = X.length := by rw [hX]; exact List.length_replicate ..
  obtain ⟨N, k, r, h1, h2⟩ := hz
  have hc : ∀ y A a b r, fw_R (gz_d m) X a b → fw_run fw_P mg_M 1500 20 y A a = some r → ∃ σ, mm_run (mg_P K) mg_M (max N 1500) d y A b = some (r.1, σ) ∧ fw_R (gz_d m) X r.2 σ := fun y A a b r hR hr => by
    obtain ⟨σ, g1, g2⟩ := fw_run_ok (p := mm_old K.1.1 K.1.2) hl (gz_dd m) fw_p0_ok 20 y A a b r hR hr
    exact ⟨σ, mm_run_fuel (Nat.le_max_right N 1500) g1 hd, g2⟩
  cases e : gz_e c stop n pc L S m T0 w0 with
  | none => rw [e] at h; cases h
  | some q =>
    rw [e] at h h1
    rcases q with ⟨p9, L9, S9, a9⟩ | r9
    · obtain ⟨rfl, rfl, rfl, rfl⟩ := of_decide_eq_true (show decide (p9 = stop ∧ L9 = L1 ∧ S9 = S1 ∧ a9.2 = w1) = true from h)
      obtain ⟨b1, ⟨T, w, rfl, rfl⟩, g5⟩ := fw_go_l (p := mm_old K.1.1 K.1.2) (b := (X ++ T0, w0)) hl (gz_dd m) fw_p0_ok hc ⟨T0, w0, rfl, rfl⟩ e
      have e2 : gz_T m (some (.inl (p9, L9, S9, (gz_d m ++ T, w)))) = T := by
        show (gz_d m ++ T).drop m = T
        have e3 : (gz_d m).length = m := List.length_replicate ..
        rw [List.drop_append_of_le_length (by omega), List.drop_eq_nil_of_le (by omega), List.nil_append]
      rw [e2] at h1
      refine ⟨max N 1500, _, r, g5 k r ?_, h2⟩
      exact mm_go_fuel (fun y A σ r h3 => mm_run_fuel (Nat.le_max_left N 1500) h3 (Nat.le_refl d)) h1 (Nat.le_refl k)
    · cases h
theorem ew_wp {scr : Nat × (Nat → Int32)} {c : mm_Code} {d pc : Nat} {L : mm_L} {S : List Value} {G : mg_G} {pre sh : List mg_S} {T : List mm_C} {w : Bool × Nat × Nat} {Q : mg_Q} {Z : mm_R → Prop} (h : gz_k sh T = true) (hw : mg_wp (scr, pre ++ sh) c d pc L S (gz_G G pre.length T) Q) (hZ : ∀ o k G', Q o k G' → Z (o, mg_h (scr, pre ++ sh) G' (mg_thr k w))) : ew (mg_P (scr, pre ++ sh)) c d pc L S (mg_k G 0 pre ++ T, w) Z := by
  rw [gz_h (scr := scr) h]
  obtain ⟨N, n, o, k, G', h1, h2⟩ := hw w
  exact ⟨N, n, _, h1, hZ o k G' h2⟩
theorem ew_m {P : mm_P} {c : mm_Code} {d y nL : Nat} {A : List Value} {σ : mm_H} {Z : mm_R → Prop} (hy : mg_M y = some (c, nL)) (hA : (mm_args A).length ≤ nL) (h : ew P c d 0 (mm_entry A nL) [] σ Z) : ∃ N r, mm_run P mg_M N (d + 1) y A σ = some r ∧ Z r := by
  obtain ⟨N, n, r, h1, h2⟩ := h
  refine ⟨max N n, r, ?_, h2⟩
  show (match mg_M y with
    | some (code, nL) => if (mm_args A).length ≤ nL then mm_go P (mm_run P mg_M (max N n) d) code (max N n) 0 (mm_entry A nL) [] σ else none
    | none => none) = _
  rw [hy]
  show (if (mm_args A).length ≤ nL then mm_go P (mm_run P mg_M (max N n) d) c (max N n) 0 (mm_entry A nL) [] σ else none) = _
  rw [if_pos hA]
  exact mm_go_fuel (fun y A σ r h3 => mm_run_fuel (Nat.le_max_left N n) h3 (Nat.le_refl d)) h1 (Nat.le_max_right N n)
theorem ew_call {P : mm_P} {c : mm_Code} {d pc len y b e1 e2 : Nat} {i : Instr} {L : mm_L} {S A rest : List Value} {σ : mm_H} {Z : mm_R → Prop} (hl : c.lookup pc = some (len, 15, y, b, e1, e2, i, [])) (ht : mm_take b S = some (A, rest)) (hi : mm_isr P σ e1 A = true) (h : ∃ N r, mm_run P mg_M N d y A σ = some r ∧ r.1 = .inl none ∧ ew P c d (pc + 3) L rest r.2 Z) : ew P c d pc L S σ Z := by
  obtain ⟨N, ⟨o, σ'⟩, h1, rfl, N2, n2, r2, h2, h3⟩ := h
  refine ⟨max N N2, n2 + 1, r2, ?_, h3⟩
  have h4 := mm_run_fuel (Nat.le_max_left N N2) h1 (Nat.le_refl d)
  simp only [mm_go, hl, mm_step, ht, hi, or_true, if_true, h4, mm_back]
  exact mm_go_fuel (fun y A σ r h3 => mm_run_fuel (Nat.le_max_right N N2) h3 (Nat.le_refl d)) h2 (Nat.le_refl _)
