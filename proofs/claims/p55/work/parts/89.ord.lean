def a_sg (a b j : Nat) : Nat := if j = b then a else if a ≤ j ∧ j < b then j + 1 else if b < j ∧ j ≤ a then j - 1 else j
def a_mv (ord : Nat → Nat) (a b : Nat) : Nat → Nat := fun j => ord (a_sg a b j)
theorem a_sg_lt {a b j n : Nat} (ha : a < n) (hb : b < n) (hj : j < n) : a_sg a b j < n := by
  unfold a_sg
  repeat' split
  all_goals omega
theorem a_sg_sg (a b j : Nat) : a_sg a b (a_sg b a j) = j := by
  unfold a_sg
  repeat' split
  all_goals omega
theorem a_mv_O {ord : Nat → Nat} {nv a b : Nat} (h : aO ord nv) (ha : a < nv) (hb : b < nv) : aO (a_mv ord a b) nv :=
  ⟨fun j hj => h.1 _ (a_sg_lt ha hb hj), fun v hv => by
    obtain ⟨i, hi, e⟩ := h.2.1 v hv
    exact ⟨a_sg b a i, a_sg_lt hb ha hi, by show ord (a_sg a b (a_sg b a i)) = v; rw [a_sg_sg, e]⟩, fun i j hi hj e => by
    have h1 := h.2.2.1 _ _ (a_sg_lt ha hb hi) (a_sg_lt ha hb hj) e
    have h2 := congrArg (a_sg b a) h1
    rwa [a_sg_sg, a_sg_sg] at h2, h.2.2.2⟩
def a_mvO (A : a_A) (v l : Nat) : Nat → Nat := a_mv (aD A) (a_lvl A v) l
/-- the diagram's size with another order -/
def a_sz (A : a_A) (ord : Nat → Nat) : Nat := (a_all ord (aV A) (aT A) (aF A)).length
def a_bs (A : a_A) (v : Nat) : Nat → Nat × Nat
  | 0 => (a_sz A (aD A), a_lvl A v)
  | k + 1 => if a_sz A (a_mvO A v k) < (a_bs A v k).1 then (a_sz A (a_mvO A v k), k) else a_bs A v k
def a_best (A : a_A) (v : Nat) : Nat := (a_bs A v (aV A)).2
theorem a_bs_le (A : a_A) (v : Nat) : ∀ k, (a_bs A v k).1 ≤ a_sz A (aD A) ∧ ((a_bs A v k).1 = a_sz A (aD A) → (a_bs A v k).2 = a_lvl A v)
  | 0 => ⟨Nat.le_refl _, fun _ => rfl⟩
  | k + 1 => by
    have ih := a_bs_le A v k
    unfold a_bs
    split
    · rename_i h
      exact ⟨by show a_sz A (a_mvO A v k) ≤ _; omega, fun q => by have q : a_sz A (a_mvO A v k) = _ := q; omega⟩
    · exact ih
theorem a_bs_lt {A : a_A} {v : Nat} (h : a_lvl A v < aV A) : ∀ k, k ≤ aV A → (a_bs A v k).2 < aV A
  | 0, _ => h
  | k + 1, hk => by
    have ih := a_bs_lt h k (by omega)
    unfold a_bs
    split
    · show k < _
      omega
    · exact ih
theorem a_best_lt {A : a_A} (hW : aW A) {v : Nat} (hv : v < aV A) : a_best A v < aV A := a_bs_lt (a_lvl_at hW hv).1 _ (Nat.le_refl _)
theorem a_sz_le {A : a_A} (hW : aW A) {ord : Nat → Nat} (ho : aO ord (aV A)) : a_sz A ord ≤ 626 := a_all_626 ho hW.2.2.1 hW.2.2.2.1
theorem a_mvO_O {A : a_A} (hW : aW A) {v l : Nat} (hv : v < aV A) (hl : l < aV A) : aO (a_mvO A v l) (aV A) := a_mv_O hW.2.1 (a_lvl_at hW hv).1 hl
theorem a_bs_626 {A : a_A} (hW : aW A) {v : Nat} : ∀ k, (a_bs A v k).1 ≤ 626 := fun k => Nat.le_trans (a_bs_le A v k).1 (a_sz_le hW hW.2.1)
def a_shf (A : a_A) (v l : Nat) : a_A := setD A (a_mvO A v l)
def a_sft (A : a_A) (v : Nat) : a_A := a_shf A v (a_best A v)
theorem a_shf_W {A : a_A} (hW : aW A) {v l : Nat} (hv : v < aV A) (hl : l < aV A) : aW (a_shf A v l) := setD_W hW (a_mvO_O hW hv hl)
theorem a_sft_W {A : a_A} (hW : aW A) {v : Nat} (hv : v < aV A) : aW (a_sft A v) := a_shf_W hW hv (a_best_lt hW hv)
/-- the first of the greatest -/
def a_mx (f : Nat → Int32) : Nat → Nat
  | 0 => 0
  | k + 1 => if f (a_mx f k) < f k then k else a_mx f k
def a_tst (f : Nat → Int32) (n : Nat) : Nat → Nat → Int32
  | 0 => f
  | k + 1 => mg_u (a_tst f n k) (a_mx (a_tst f n k) n) (-1)
def a_sq (f : Nat → Int32) (n k : Nat) : Nat := a_mx (a_tst f n k) n
def a_sfs (A : a_A) (f : Nat → Int32) : Nat → a_A
  | 0 => A
  | k + 1 => a_sft (a_sfs A f k) (a_sq f (aV A) k)
def a_sfa (A : a_A) : a_A := a_sfs A (a_ts A) (aV A)
theorem a_mx_lt (f : Nat → Int32) : ∀ n, 0 < n → a_mx f n < n
  | 0, h => absurd h (Nat.lt_irrefl 0)
  | k + 1, _ => by
    unfold a_mx
    split
    · omega
    · by_cases h : k = 0
      · subst h
        exact Nat.zero_lt_one
      · have := a_mx_lt f k (by omega)
        omega
theorem a_sfs_V (A : a_A) (f : Nat → Int32) : ∀ k, aV (a_sfs A f k) = aV A
  | 0 => rfl
  | k + 1 => a_sfs_V A f k
theorem a_sfs_W {A : a_A} (hW : aW A) (f : Nat → Int32) : ∀ k, aW (a_sfs A f k)
  | 0 => hW
  | k + 1 => a_sft_W (a_sfs_W hW f k) (by rw [a_sfs_V]; exact a_mx_lt _ _ hW.1)
theorem aW.gN {A : a_A} (h : aW A) : gN (aG A) ≤ 628 := by
  have := h.N
  show (aN A).length + 2 ≤ 628
  omega
