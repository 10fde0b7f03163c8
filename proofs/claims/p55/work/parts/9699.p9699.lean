/-- how many bytes from p on are P -/
def k_run (P : Nat → Bool) (l : List Nat) (p : Nat) : Nat := ((l.drop p).takeWhile P).length
theorem k_run_0 {P : Nat → Bool} {l : List Nat} {p : Nat} (h : l.length ≤ p) : k_run P l p = 0 := by
  unfold k_run
  rw [List.drop_eq_nil_of_le h]
  rfl
theorem k_run_n {P : Nat → Bool} {l : List Nat} {p c : Nat} (h : l[p]? = some c) (hP : P c = false) : k_run P l p = 0 := by
  have hp := (List.getElem?_eq_some_iff.mp h).1
  unfold k_run
  rw [List.drop_eq_getElem_cons hp, (List.getElem?_eq_some_iff.mp h).2, List.takeWhile_cons, hP]
  rfl
theorem k_run_y {P : Nat → Bool} {l : List Nat} {p c : Nat} (h : l[p]? = some c) (hP : P c = true) : k_run P l p = k_run P l (p + 1) + 1 := by
  have hp := (List.getElem?_eq_some_iff.mp h).1
  unfold k_run
  rw [List.drop_eq_getElem_cons hp, (List.getElem?_eq_some_iff.mp h).2, List.takeWhile_cons, hP]
  rfl
theorem k_run_le (P : Nat → Bool) (l : List Nat) (p : Nat) (hp : p ≤ l.length) : p + k_run P l p ≤ l.length := by
  unfold k_run
  have := (List.takeWhile_sublist P (l := l.drop p)).length_le
  rw [List.length_drop] at this
  omega
/-- inside the run, and at its end -/
theorem k_run_at {P : Nat → Bool} {l : List Nat} : ∀ {j p : Nat}, j < k_run P l p → ∃ c, l[p + j]? = some c ∧ P c = true := by
  intro j
  induction j with
  | zero =>
    intro p h
    by_cases hp : p < l.length
    · cases hP : P l[p] with
      | false => rw [k_run_n (List.getElem?_eq_getElem hp) hP] at h; exact absurd h (Nat.not_lt_zero 0)
      | true => exact ⟨l[p], List.getElem?_eq_getElem hp, hP⟩
    · rw [k_run_0 (by omega)] at h
      exact absurd h (Nat.not_lt_zero 0)
  | succ j ih =>
    intro p h
    by_cases hp : p < l.length
    · cases hP : P l[p] with
      | false => rw [k_run_n (List.getElem?_eq_getElem hp) hP] at h; exact absurd h (Nat.not_lt_zero _)
      | true =>
        rw [k_run_y (List.getElem?_eq_getElem hp) hP] at h
        obtain ⟨c, h1, h2⟩ := ih (p := p + 1) (by omega)
        exact ⟨c, by rw [show p + (j + 1) = p + 1 + j by omega]; exact h1, h2⟩
    · rw [k_run_0 (by omega)] at h
      exact absurd h (Nat.not_lt_zero _)
theorem k_run_end {P : Nat → Bool} {l : List Nat} : ∀ (n p : Nat), k_run P l p = n → ∀ c, l[p + n]? = some c → P c = false := by
  intro n
  induction n with
  | zero =>
    intro p h c hc
    cases hP : P c with
    | false => rfl
    | true =>
      rw [Nat.add_zero] at hc
      rw [k_run_y hc hP] at h
      cases h
  | succ n ih =>
    intro p h c hc
    obtain ⟨c2, h1, h2⟩ := k_run_at (P := P) (l := l) (p := p) (j := 0) (by omega)
    rw [Nat.add_zero] at h1
    rw [k_run_y h1 h2] at h
    exact ih (p + 1) (by omega) c (by rw [show p + 1 + n = p + (n + 1) by omega]; exact hc)
abbrev kSp : Nat → Bool := fun c => c == 32 || c == 10
abbrev kLt : Nat → Bool := fun c => decide (97 ≤ c) && decide (c ≤ 122)
abbrev kDg : Nat → Bool := fun c => decide (48 ≤ c) && decide (c ≤ 57)
/-- the token behind place p: where it starts, its kind, where it ends, its word, its number -/
def k_S (l : List Nat) (p : Nat) : Nat := p + k_run kSp l p
def k_a (l : List Nat) (p : Nat) : Nat := k_run kLt l (k_S l p)
def k_b (l : List Nat) (p : Nat) : Nat := k_run kDg l (k_S l p)
def k_K (l : List Nat) (p : Nat) : Nat := if 0 < k_a l p then (if k_a l p ≤ 7 then 1 else 4) else if 0 < k_b l p then (if k_b l p ≤ 3 then 2 else 4) else if k_S l p < l.length then 3 else 0
def k_E (l : List Nat) (p : Nat) : Nat := if 0 < k_a l p then k_S l p + k_a l p else if 0 < k_b l p then k_S l p + k_b l p else if k_S l p < l.length then k_S l p + 1 else k_S l p
def k_W (l : List Nat) (p : Nat) : List Nat := (l.drop (k_S l p)).take (k_a l p)
def k_num (l : List Nat) : Nat := l.foldl (fun a c => a * 10 + (c - 48)) 0
def k_N (l : List Nat) (p : Nat) : Nat := k_num ((l.drop (k_S l p)).take (k_b l p))
theorem k_S_le {l : List Nat} {p : Nat} (hp : p ≤ l.length) : k_S l p ≤ l.length := k_run_le kSp l p hp
theorem k_S_ge (l : List Nat) (p : Nat) : p ≤ k_S l p := Nat.le_add_right _ _
theorem k_E_le {l : List Nat} {p : Nat} (hp : p ≤ l.length) : k_E l p ≤ l.length := by
  have h1 := k_S_le hp
  have h2 : k_S l p + k_a l p ≤ l.length := k_run_le kLt l _ h1
  have h3 : k_S l p + k_b l p ≤ l.length := k_run_le kDg l _ h1
  unfold k_E
  split
  · exact h2
  · split
    · exact h3
    · split <;> omega
theorem k_E_ge (l : List Nat) (p : Nat) : k_S l p ≤ k_E l p := by
  unfold k_E
  split
  · omega
  · split
    · omega
    · split <;> omega
/-- a token that is one takes at least a byte -/
theorem k_E_lt {l : List Nat} {p : Nat} (h : k_K l p ≠ 0) : k_S l p < k_E l p := by
  unfold k_K at h
  unfold k_E
  split at h
  · split <;> omega
  · rw [if_neg (by assumption)]
    split at h
    · rw [if_pos (by assumption)]; omega
    · rw [if_neg (by assumption)]
      split at h
      · rw [if_pos (by assumption)]; omega
      · exact absurd rfl h
theorem k_num_s (l : List Nat) (c : Nat) : k_num (l ++ [c]) = k_num l * 10 + (c - 48) := by
  unfold k_num
  rw [List.foldl_append]
  rfl
theorem k_num_lt : ∀ l : List Nat, (∀ c, c ∈ l → c ≤ 57) → k_num l < 10 ^ l.length := by
  refine a_snoc (fun _ => by decide) (fun l c ih h => ?_)
  have h1 := ih (fun x hx => h x (List.mem_append_left _ hx))
  have h2 := h c (List.mem_append_right _ List.mem_cons_self)
  rw [k_num_s, List.length_append, List.length_singleton, Nat.pow_succ]
  omega
/-- a run, its bytes one by one -/
theorem k_take_s {P : Nat → Bool} {l : List Nat} {p k : Nat} (h : k < k_run P l p) : ∃ c, l[p + k]? = some c ∧ P c = true ∧ (l.drop p).take (k + 1) = (l.drop p).take k ++ [c] := by
  obtain ⟨c, h1, h2⟩ := k_run_at h
  refine ⟨c, h1, h2, ?_⟩
  rw [List.take_succ, List.getElem?_drop, h1]
  rfl
theorem k_run_P {P : Nat → Bool} {l : List Nat} {p n : Nat} (hn : n ≤ k_run P l p) : ∀ c, c ∈ (l.drop p).take n → P c = true := by
  intro c hc
  obtain ⟨i, hi, e⟩ := List.mem_iff_getElem.mp hc
  rw [List.length_take] at hi
  rw [List.getElem_take, List.getElem_drop] at e
  obtain ⟨c2, h1, h2⟩ := k_run_at (P := P) (l := l) (p := p) (j := i) (by omega)
  rw [List.getElem?_eq_getElem (by have := (List.getElem?_eq_some_iff.mp h1).1; omega)] at h1
  rw [← e, Option.some.inj h1]
  exact h2
theorem k_run_len {P : Nat → Bool} {l : List Nat} {p n : Nat} (hp : p ≤ l.length) (hn : n ≤ k_run P l p) : ((l.drop p).take n).length = n := by
  have := k_run_le P l p hp
  rw [List.length_take, List.length_drop]
  omega
theorem k_W_nm {l : List Nat} {p : Nat} (hp : p ≤ l.length) (h : k_K l p = 1) : a_nm7 (k_W l p) ∧ k_W l p ≠ [] ∧ k_E l p = k_S l p + (k_W l p).length := by
  have hl : (k_W l p).length = k_a l p := k_run_len (k_S_le hp) (Nat.le_refl _)
  have hK := h
  unfold k_K at hK
  split at hK
  · rename_i h0
    split at hK
    · rename_i h7
      refine ⟨⟨fun c hc => ?_, by omega⟩, fun q => by rw [q] at hl; exact absurd hl.symm (by show ¬ k_a l p = 0; omega), ?_⟩
      · have := k_run_P (P := kLt) (Nat.le_refl _) c hc
        rw [Bool.and_eq_true, decide_eq_true_eq, decide_eq_true_eq] at this
        exact this
      · unfold k_E
        rw [if_pos h0, hl]
    · cases hK
  · split at hK
    · split at hK <;> cases hK
    · split at hK <;> cases hK
/-- only the token's fields are changed -/
def rKf (G G' : mg_G) : Prop := G'.1 = G.1 ∧ G'.2.1 = G.2.1 ∧ G'.2.2.1 = G.2.2.1 ∧ G'.2.2.2.1 = G.2.2.2.1 ∧ ∀ b k, ¬ (b = 148 ∧ 22 ≤ k ∧ k ≤ 25) → G'.2.2.2.2 b k = G.2.2.2.2 b k
theorem rKf.rf (G : mg_G) : rKf G G := ⟨rfl, rfl, rfl, rfl, fun _ _ _ => rfl⟩
theorem rKf.tr {G G' G'' : mg_G} (h : rKf G G') (h2 : rKf G' G'') : rKf G G'' := ⟨h2.1.trans h.1, h2.2.1.trans h.2.1, h2.2.2.1.trans h.2.2.1, h2.2.2.2.1.trans h.2.2.2.1, fun b k hb => (h2.2.2.2.2 b k hb).trans (h.2.2.2.2 b k hb)⟩
theorem rKf.s (G : mg_G) (k : Nat) (v : Value) (hk : 22 ≤ k ∧ k ≤ 25) : rKf G (mg_sF G 148 k v) := ⟨rfl, rfl, rfl, rfl, fun b j hb => mg_sF_ne _ _ (by omega)⟩
theorem rKf.n {G G' : mg_G} {l : List Nat} (h : rKf G G') (hI : rIn G l) : rIn G' l := ⟨(h.2.2.2.2 148 5 (by decide)).trans hI.1, hI.2.1, fun i c hi => by rw [h.1]; exact hI.2.2 i c hi⟩
/-- the token behind p stands -/
def rk (G : mg_G) (l : List Nat) (p : Nat) : Prop := G.2.2.2.2 148 22 = .int (Int32.ofNat (k_E l p)) ∧ G.2.2.2.2 148 23 = .int (Int32.ofNat (k_K l p)) ∧ G.2.2.2.2 148 24 = .int (Int32.ofNat (k_S l p)) ∧ (k_K l p = 2 → G.2.2.2.2 148 25 = .int (Int32.ofNat (k_N l p)))
section RM
variable {scr : Nat × (Nat → Int32)} {t : List mg_S} {G : mg_G} {A : a_A} {S : a_S} {l : List Nat}
end RM
