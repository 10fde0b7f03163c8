/-- pigeons -/
theorem a_pig : ∀ (m n : Nat) (f : Nat → Nat), (∀ i, i < n → f i < m) → (∀ i j, i < n → j < n → f i = f j → i = j) → n ≤ m
  | 0, 0, _, _, _ => Nat.le_refl 0
  | 0, n + 1, f, h, _ => absurd (h 0 (Nat.succ_pos n)) (Nat.not_lt_zero _)
  | m + 1, 0, _, _, _ => Nat.zero_le _
  | m + 1, n + 1, f, h, hi => by
    -- send what goes to m to where n goes
    have key := a_pig m n (fun i => if f i = m then f n else f i) (fun i hl => by
      show (if f i = m then f n else f i) < m
      have h1 := h i (by omega)
      have h2 := h n (by omega)
      by_cases e : f i = m
      · rw [if_pos e]
        have : f n ≠ m := fun e2 => absurd (hi i n (by omega) (by omega) (e.trans e2.symm)) (by omega)
        omega
      · rw [if_neg e]
        omega) (fun i j hi1 hj1 he => by
      have he : (if f i = m then f n else f i) = (if f j = m then f n else f j) := he
      by_cases e : f i = m
      · by_cases e2 : f j = m
        · exact hi i j (by omega) (by omega) (e.trans e2.symm)
        · rw [if_pos e, if_neg e2] at he
          exact absurd (hi n j (by omega) (by omega) he) (by omega)
      · by_cases e2 : f j = m
        · rw [if_neg e, if_pos e2] at he
          exact absurd (hi i n (by omega) (by omega) he) (by omega)
        · rw [if_neg e, if_neg e2] at he
          exact hi i j (by omega) (by omega) he)
    omega
/-- a list without doubles whose things all have a number below m, no two the same -/
theorem a_pigL {α : Type} {l : List α} {m : Nat} (g : α → Nat) (hn : l.Nodup) (h : ∀ x ∈ l, g x < m) (hi : ∀ x ∈ l, ∀ y ∈ l, g x = g y → x = y) : l.length ≤ m := by
  refine a_pig m l.length (fun i => match l[i]? with
    | some x => g x
    | none => 0) (fun i hl => ?_) (fun i j hil hjl he => ?_)
  · simp only [List.getElem?_eq_getElem hl]
    exact h _ (List.getElem_mem hl)
  · simp only [List.getElem?_eq_getElem hil, List.getElem?_eq_getElem hjl] at he
    have := hi _ (List.getElem_mem hil) _ (List.getElem_mem hjl) he
    exact (List.getElem_inj hn).mp this
section HS
variable {α : Type} {M off : Nat} {h : α → Nat} {l : List α} {sl : Nat → Nat}
/-- the slots hold the things of l, each at the end of a way without gaps from its own slot; what stands there is off + its place -/
def a_hs (M off : Nat) (h : α → Nat) (l : List α) (sl : Nat → Nat) : Prop := ∃ ps : Nat → Nat, (∀ i T, l[i]? = some T → ∃ e, e < M ∧ ps i = (h T + e) % M ∧ sl (ps i) = off + i ∧ ∀ e2, e2 < e → sl ((h T + e2) % M) ≠ 0) ∧ (∀ q, q < M → sl q = 0 ∨ ∃ i, i < l.length ∧ q = ps i)
theorem a_hs_nil : a_hs M off h ([] : List α) (fun _ => 0) := ⟨fun _ => 0, fun i T hT => by simp at hT, fun q _ => Or.inl rfl⟩
/-- what stands in a slot that is taken -/
theorem a_hs_at (H : a_hs M off h l sl) {q : Nat} (hq : q < M) (h0 : sl q ≠ 0) : ∃ i T, l[i]? = some T ∧ sl q = off + i := by
  obtain ⟨ps, h1, h2⟩ := H
  rcases h2 q hq with h3 | ⟨i, hi, rfl⟩
  · exact absurd h3 h0
  · obtain ⟨e, -, -, h4, -⟩ := h1 i l[i] (List.getElem?_eq_getElem hi)
    exact ⟨i, _, List.getElem?_eq_getElem hi, h4⟩
/-- a way that ends at a free slot without meeting T: T isn't there -/
theorem a_hs_not (H : a_hs M off h l sl) (hnd : l.Nodup) {T : α} {e : Nat} (he : sl ((h T + e) % M) = 0) (hway : ∀ e2, e2 < e → ∀ i, sl ((h T + e2) % M) = off + i → l[i]? ≠ some T) (hoff : 0 < off) : T ∉ l := by
  intro hm
  obtain ⟨i, hi⟩ := List.mem_iff_getElem?.mp hm
  obtain ⟨ps, h1, h2⟩ := H
  obtain ⟨e1, -, e2, h4, h5⟩ := h1 i T hi
  rcases Nat.lt_or_ge e1 e with hl | hl
  · exact hway e1 hl i (by rw [← e2]; exact h4) hi
  · rcases Nat.lt_or_eq_of_le hl with hl2 | rfl
    · exact h5 e hl2 he
    · rw [e2] at h4
      rw [h4] at he
      omega
/-- one more -/
theorem a_hs_add (H : a_hs M off h l sl) {T : α} {e : Nat} (heM : e < M) (he : sl ((h T + e) % M) = 0) (hway : ∀ e2, e2 < e → sl ((h T + e2) % M) ≠ 0) (hoff : 0 < off) : a_hs M off h (l ++ [T]) (fun q => if q = (h T + e) % M then off + l.length else sl q) := by
  obtain ⟨ps, h1, h2⟩ := H
  refine ⟨fun i => if i = l.length then (h T + e) % M else ps i, fun i U hU => ?_, fun q hq => ?_⟩
  · by_cases hi : i = l.length
    · subst hi
      have hUT : U = T := by
        rw [List.getElem?_append_right (Nat.le_refl _), Nat.sub_self] at hU
        exact (Option.some.inj hU).symm
      subst hUT
      refine ⟨e, heM, if_pos rfl, by simp, fun e2 h3 => ?_⟩
      show (if (h U + e2) % M = (h U + e) % M then off + l.length else sl ((h U + e2) % M)) ≠ 0
      split
      · omega
      · exact hway e2 h3
    · have hil : i < l.length := by
        have := (List.getElem?_eq_some_iff.mp hU).1
        rw [List.length_append, List.length_singleton] at this
        omega
      rw [List.getElem?_append_left hil] at hU
      obtain ⟨e1, g1, g2, g3, g4⟩ := h1 i U hU
      refine ⟨e1, g1, by simp only [if_neg hi]; exact g2, ?_, fun e2 h3 => ?_⟩
      · simp only [if_neg hi]
        rw [if_neg (fun q => by rw [q] at g3; omega)]
        exact g3
      · show (if (h U + e2) % M = (h T + e) % M then off + l.length else sl ((h U + e2) % M)) ≠ 0
        split
        · omega
        · exact g4 e2 h3
  · by_cases hqe : q = (h T + e) % M
    · exact Or.inr ⟨l.length, by rw [List.length_append, List.length_singleton]; omega, by simp only [if_true]; exact hqe⟩
    · rcases h2 q hq with h3 | ⟨i, hi, rfl⟩
      · exact Or.inl (by simp only [if_neg hqe]; exact h3)
      · exact Or.inr ⟨i, by rw [List.length_append, List.length_singleton]; omega, by simp only [if_neg (show ¬ i = l.length by omega)]⟩
/-- there is a free slot, at some way from each slot -/
theorem a_hs_free (H : a_hs M off h l sl) (hl : l.length < M) (b : Nat) : ∃ e, e < M ∧ sl ((b + e) % M) = 0 ∧ ∀ e2, e2 < e → sl ((b + e2) % M) ≠ 0 := by
  have hM : 0 < M := by omega
  have hex : ∃ q, q < M ∧ sl q = 0 := by
    refine Decidable.byContradiction fun hno => ?_
    obtain ⟨ps, h1, h2⟩ := H
    have h3 : ∀ q, q < M → ∃ i, i < l.length ∧ q = ps i := fun q hq => (h2 q hq).elim (fun h4 => absurd ⟨q, hq, h4⟩ hno) id
    obtain ⟨f, hf⟩ := Classical.axiomOfChoice (fun q : Nat => (show ∃ i, q < M → i < l.length ∧ q = ps i from if hq : q < M then (h3 q hq).imp (fun i hi _ => hi) else ⟨0, fun h => absurd h hq⟩))
    have := a_pig l.length M f (fun q hq => (hf q hq).1) (fun q r hq hr he => by rw [(hf q hq).2, (hf r hr).2, he])
    omega
  obtain ⟨q, hq, h0⟩ := hex
  have hex2 : ∃ e, e < M ∧ sl ((b + e) % M) = 0 := by
    refine ⟨(q + (M - b % M)) % M, Nat.mod_lt _ hM, ?_⟩
    have : (b + (q + (M - b % M)) % M) % M = q := by
      have hb := Nat.mod_lt b hM
      rw [Nat.add_mod_mod, show b + (q + (M - b % M)) = q + (b + (M - b % M)) by omega]
      have hd := Nat.div_add_mod b M
      have : b + (M - b % M) = M * (b / M + 1) := by rw [Nat.mul_add, Nat.mul_one]; omega
      rw [this, Nat.add_mul_mod_self_left]
      exact Nat.mod_eq_of_lt hq
    rw [this]
    exact h0
  obtain ⟨e0, g1, g2⟩ := hex2
  -- the least
  have least : ∀ n e, e ≤ n → e < M → sl ((b + e) % M) = 0 → ∃ e, e < M ∧ sl ((b + e) % M) = 0 ∧ ∀ e2, e2 < e → sl ((b + e2) % M) ≠ 0 := by
    intro n
    induction n with
    | zero => exact fun e h1 h2 h3 => ⟨e, h2, h3, fun e2 h4 => by omega⟩
    | succ n ih =>
      intro e h1 h2 h3
      by_cases hx : ∃ e2, e2 < e ∧ sl ((b + e2) % M) = 0
      · obtain ⟨e2, h4, h5⟩ := hx
        exact ih e2 (by omega) (by omega) h5
      · exact ⟨e, h2, h3, fun e2 h4 h5 => hx ⟨e2, h4, h5⟩⟩
  exact least e0 e0 (Nat.le_refl _) g1 g2
end HS
