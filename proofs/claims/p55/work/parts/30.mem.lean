/-! THE PURE PART. Memory with a fixed shape: which places are what is a list K.2 (arrays: type and length; objects: class, and for each field a fixed value or none: it changes), what they hold are five functions of place and index -/
abbrev mg_G : Type := (Nat → Nat → Int32) × (Nat → Nat → Int64) × (Nat → Nat → UInt64) × (Nat → Nat → Option Nat) × (Nat → Nat → Value)
abbrev mg_S : Type := (Nat × Nat) ⊕ (Nat × List (Option Value))
def mg_t (G : mg_G) (a t : Nat) : (Nat → Int32) ⊕ (Nat → Int64) ⊕ (Nat → UInt32) ⊕ (Nat → UInt64) ⊕ (Nat → Option Nat) := match t with
  | 1 => .inr (.inl (G.2.1 a))
  | 4 => .inr (.inr (.inr (.inl (G.2.2.1 a))))
  | 5 => .inr (.inr (.inr (.inr (G.2.2.2.1 a))))
  | _ => .inl (G.1 a)
def mg_f (f : Nat → Value) : Nat → List (Option Value) → List Value
  | _, [] => []
  | k, some v :: r => v :: mg_f f (k + 1) r
  | k, none :: r => f k :: mg_f f (k + 1) r
def mg_c (G : mg_G) (a : Nat) (s : mg_S) : mm_C := match s with
  | .inl (t, n) => .inl (t, n, mg_t G a t)
  | .inr (c, T) => .inr (c, mg_f (G.2.2.2.2 a) 0 T)
def mg_k (G : mg_G) : Nat → List mg_S → List mm_C
  | _, [] => []
  | k, s :: r => mg_c G k s :: mg_k G (k + 1) r
theorem mg_k_at (G : mg_G) : ∀ (l : List mg_S) (k a : Nat), (mg_k G k l)[a]? = (l[a]?).map (mg_c G (k + a))
  | [], k, a => rfl
  | s :: r, k, 0 => rfl
  | s :: r, k, a + 1 => by
    show (mg_k G (k + 1) r)[a]? = (r[a]?).map (mg_c G (k + (a + 1)))
    rw [mg_k_at G r (k + 1) a, show k + 1 + a = k + (a + 1) by omega]
theorem mg_k_len (G : mg_G) : ∀ (l : List mg_S) (k : Nat), (mg_k G k l).length = l.length
  | [], k => rfl
  | s :: r, k => congrArg (· + 1) (mg_k_len G r (k + 1))
theorem mg_f_at (f : Nat → Value) : ∀ (T : List (Option Value)) (k j : Nat) (v : Value), (mg_f f k T)[j]? = some v ↔ (T[j]? = some (some v) ∨ (T[j]? = some none ∧ v = f (k + j)))
  | [], k, j, v => by simp [mg_f]
  | some w :: r, k, 0, v => by simp [mg_f]
  | none :: r, k, 0, v => by simp [mg_f, eq_comm]
  | some w :: r, k, j + 1, v => by
    show (mg_f f (k + 1) r)[j]? = some v ↔ _
    rw [mg_f_at f r (k + 1) j v, show k + 1 + j = k + (j + 1) by omega]
    rfl
  | none :: r, k, j + 1, v => by
    show (mg_f f (k + 1) r)[j]? = some v ↔ _
    rw [mg_f_at f r (k + 1) j v, show k + 1 + j = k + (j + 1) by omega]
    rfl
theorem mg_f_len (f : Nat → Value) : ∀ (T : List (Option Value)) (k : Nat), (mg_f f k T).length = T.length
  | [], k => rfl
  | some _ :: r, k => congrArg (· + 1) (mg_f_len f r (k + 1))
  | none :: r, k => congrArg (· + 1) (mg_f_len f r (k + 1))
/-- one function changed at one place -/
def mg_u {α : Type} (f : Nat → α) (k : Nat) (x : α) : Nat → α := fun j => if j = k then x else f j
def mg_u2 {α : Type} (f : Nat → Nat → α) (a k : Nat) (x : α) : Nat → Nat → α := mg_u f a (mg_u (f a) k x)
theorem mg_u_at {α : Type} (f : Nat → α) (k : Nat) (x : α) (j : Nat) : mg_u f k x j = if j = k then x else f j := rfl
theorem mg_u_eq {α : Type} (f : Nat → α) (k : Nat) (x : α) : mg_u f k x k = x := if_pos rfl
theorem mg_u_ne {α : Type} (f : Nat → α) {k j : Nat} (x : α) (h : j ≠ k) : mg_u f k x j = f j := if_neg h
theorem mg_u2_at {α : Type} (f : Nat → Nat → α) (a k : Nat) (x : α) (b j : Nat) : mg_u2 f a k x b j = if b = a ∧ j = k then x else f b j := by
  unfold mg_u2 mg_u
  by_cases h : b = a
  · subst h
    by_cases h2 : j = k
    · simp [h2]
    · simp [h2]
  · simp [h]
theorem mg_u2_ne {α : Type} (f : Nat → Nat → α) {a : Nat} (k : Nat) (x : α) {b : Nat} (h : b ≠ a) : mg_u2 f a k x b = f b := if_neg h
/-- a heap of the shape, changed at one place, is of the shape -/
theorem mg_k_set {G G' : mg_G} {a : Nat} {c : mm_C} : ∀ {l : List mg_S} {k : Nat}, (∀ s, l[a]? = some s → mg_c G' (k + a) s = c) → (∀ b s, b ≠ k + a → l[b - k]? = some s → k ≤ b → mg_c G' b s = mg_c G b s) → (mg_k G k l).set a c = mg_k G' k l := by
  intro l k h1 h2
  apply List.ext_getElem?
  intro j
  rw [List.getElem?_set, mg_k_at, mg_k_at, mg_k_len]
  by_cases e : a = j
  · subst e
    cases hs : l[a]? with
    | none =>
      have := List.getElem?_eq_none_iff.mp hs
      simp [Nat.not_lt.mpr this]
    | some s =>
      have := (List.getElem?_eq_some_iff.mp hs).1
      simp [this, h1 s hs]
  · rw [if_neg e]
    cases hs : l[j]? with
    | none => rfl
    | some s =>
      rw [Option.map_some, Option.map_some, h2 (k + j) s (by omega) (by rw [show k + j - k = j by omega]; exact hs) (by omega)]
theorem mg_set_i {G : mg_G} {l : List mg_S} {a t n : Nat} (g : Nat → Int32) (h : l[a]? = some (.inl (t, n))) (ht : t = 0 ∨ t = 2 ∨ t = 3) : (mg_k G 0 l).set a (.inl (t, n, .inl g)) = mg_k (mg_u G.1 a g, G.2) 0 l := by
  refine mg_k_set (fun s hs => ?_) (fun b s hb hs _ => ?_)
  · rw [Nat.zero_add]
    cases Option.some.inj (h.symm.trans hs)
    have e : mg_u G.1 a g a = g := if_pos rfl
    rcases ht with rfl | rfl | rfl <;> exact congrArg (fun f => (Sum.inl (_, n, Sum.inl f) : mm_C)) e
  · rw [Nat.zero_add] at hb
    have e : mg_u G.1 a g b = G.1 b := if_neg hb
    cases s with
    | inl q =>
      obtain ⟨t9, n9⟩ := q
      show (Sum.inl (t9, n9, mg_t _ b t9) : mm_C) = Sum.inl (t9, n9, mg_t G b t9)
      congr 3
      unfold mg_t
      split <;> first | rfl | exact congrArg Sum.inl e
    | inr q => rfl
theorem mg_set_l {G : mg_G} {l : List mg_S} {a n : Nat} (g : Nat → Int64) (h : l[a]? = some (.inl (1, n))) : (mg_k G 0 l).set a (.inl (1, n, .inr (.inl g))) = mg_k (G.1, mg_u G.2.1 a g, G.2.2) 0 l := by
  refine mg_k_set (fun s hs => ?_) (fun b s hb hs _ => ?_)
  · rw [Nat.zero_add]
    cases Option.some.inj (h.symm.trans hs)
    have e : mg_u G.2.1 a g a = g := if_pos rfl
    exact congrArg (fun f => (Sum.inl (1, n, Sum.inr (Sum.inl f)) : mm_C)) e
  · rw [Nat.zero_add] at hb
    have e : mg_u G.2.1 a g b = G.2.1 b := if_neg hb
    cases s with
    | inl q =>
      obtain ⟨t9, n9⟩ := q
      show (Sum.inl (t9, n9, mg_t _ b t9) : mm_C) = Sum.inl (t9, n9, mg_t G b t9)
      congr 3
      unfold mg_t
      split <;> first | rfl | exact congrArg (fun f => Sum.inr (Sum.inl f)) e
    | inr q => rfl
theorem mg_set_d {G : mg_G} {l : List mg_S} {a n : Nat} (g : Nat → UInt64) (h : l[a]? = some (.inl (4, n))) : (mg_k G 0 l).set a (.inl (4, n, .inr (.inr (.inr (.inl g))))) = mg_k (G.1, G.2.1, mg_u G.2.2.1 a g, G.2.2.2) 0 l := by
  refine mg_k_set (fun s hs => ?_) (fun b s hb hs _ => ?_)
  · rw [Nat.zero_add]
    cases Option.some.inj (h.symm.trans hs)
    have e : mg_u G.2.2.1 a g a = g := if_pos rfl
    exact congrArg (fun f => (Sum.inl (4, n, Sum.inr (Sum.inr (Sum.inr (Sum.inl f)))) : mm_C)) e
  · rw [Nat.zero_add] at hb
    have e : mg_u G.2.2.1 a g b = G.2.2.1 b := if_neg hb
    cases s with
    | inl q =>
      obtain ⟨t9, n9⟩ := q
      show (Sum.inl (t9, n9, mg_t _ b t9) : mm_C) = Sum.inl (t9, n9, mg_t G b t9)
      congr 3
      unfold mg_t
      split <;> first | rfl | exact congrArg (fun f => Sum.inr (Sum.inr (Sum.inr (Sum.inl f)))) e
    | inr q => rfl
theorem mg_f_set {f : Nat → Value} {j : Nat} {v : Value} : ∀ {T : List (Option Value)} {k : Nat}, T[j]? = some none → (mg_f f k T).set j v = mg_f (mg_u f (k + j) v) k T := by
  intro T k h
  apply List.ext_getElem?
  intro i
  apply Option.ext
  intro w
  rw [mg_f_at, List.getElem?_set, mg_f_len]
  have hj := (List.getElem?_eq_some_iff.mp h).1
  by_cases e : j = i
  · subst e
    rw [if_pos rfl, if_pos hj, h, mg_u_eq]
    simp [eq_comm]
  · rw [if_neg e, mg_f_at, mg_u_ne _ _ (show k + i ≠ k + j by omega)]
theorem mg_set_f {G : mg_G} {l : List mg_S} {a c j : Nat} {T : List (Option Value)} {v : Value} (h : l[a]? = some (.inr (c, T))) (hj : T[j]? = some none) : (mg_k G 0 l).set a (.inr (c, (mg_f (G.2.2.2.2 a) 0 T).set j v)) = mg_k (G.1, G.2.1, G.2.2.1, G.2.2.2.1, mg_u2 G.2.2.2.2 a j v) 0 l := by
  refine mg_k_set (fun s hs => ?_) (fun b s hb hs _ => ?_)
  · rw [Nat.zero_add]
    cases Option.some.inj (h.symm.trans hs)
    have e : mg_u2 G.2.2.2.2 a j v a = mg_u (G.2.2.2.2 a) j v := if_pos rfl
    show (Sum.inr (c, mg_f (mg_u2 G.2.2.2.2 a j v a) 0 T) : mm_C) = _
    rw [e, mg_f_set hj, Nat.zero_add]
  · rw [Nat.zero_add] at hb
    have e : mg_u2 G.2.2.2.2 a j v b = G.2.2.2.2 b := if_neg hb
    cases s with
    | inl q => rfl
    | inr q =>
      obtain ⟨c9, T9⟩ := q
      show (Sum.inr (c9, mg_f (mg_u2 G.2.2.2.2 a j v b) 0 T9) : mm_C) = _
      rw [e]
      rfl
