/-! ORDERS (pure): a variable moved from level a to level b; the best level; all variables sifted -/
def a_sg (a b j : Nat) : Nat := if j = b then a else if a ≤ j ∧ j < b then j + 1 else if b < j ∧ j ≤ a then j - 1 else j
def a_mv (ord : Nat → Nat) (a b : Nat) : Nat → Nat := fun j => ord (a_sg a b j)
theorem a_sg_lt {a b j n : Nat} (ha : a < n) (hb : b < n) (hj : j < n) : a_sg a b j < n := by
  unfold a_sg
  repeat' split
  all_goals omega
theorem a_sg_sg (a b j : Nat) : a_sg a b (a_sg b a j) = j := by
  unfold a_sg
  repeat' split
  all_goals omega
theorem a_mv_O {ord : Nat → Nat} {nv a b : Nat} (h : aO ord nv) (ha : a < nv) (hb : b < nv) : aO (a_mv ord a b) nv :=
  ⟨fun j hj => h.1 _ (a_sg_lt ha hb hj), fun v hv => by
    obtain ⟨i, hi, e⟩ := h.2.1 v hv
    exact ⟨a_sg b a i, a_sg_lt hb ha hi, by show ord (a_sg a b (a_sg b a i)) = v; rw [a_sg_sg, e]⟩, fun i j hi hj e => by
    have h1 := h.2.2.1 _ _ (a_sg_lt ha hb hi) (a_sg_lt ha hb hj) e
    have h2 := congrArg (a_sg b a) h1
    rwa [a_sg_sg, a_sg_sg] at h2, h.2.2.2⟩
theorem a_mv_id (ord : Nat → Nat) (a : Nat) : a_mv ord a a = ord := by
  funext j
  show ord (a_sg a a j) = ord j
  congr 1
  unfold a_sg
  repeat' split
  all_goals omega
def a_mvO (A : a_A) (v l : Nat) : Nat → Nat := a_mv (aD A) (a_lvl A v) l
/-- the diagram's size with another order -/
def a_sz (A : a_A) (ord : Nat → Nat) : Nat := (a_all ord (aV A) (aT A) (aF A)).length
def a_bs (A : a_A) (v : Nat) : Nat → Nat × Nat
  | 0 => (a_sz A (aD A), a_lvl A v)
  | k + 1 => if a_sz A (a_mvO A v k) < (a_bs A v k).1 then (a_sz A (a_mvO A v k), k) else a_bs A v k
def a_best (A : a_A) (v : Nat) : Nat := (a_bs A v (aV A)).2
theorem a_bs_le (A : a_A) (v : Nat) : ∀ k, (a_bs A v k).1 ≤ a_sz A (aD A) ∧ ((a_bs A v k).1 = a_sz A (aD A) → (a_bs A v k).2 = a_lvl A v)
  | 0 => ⟨Nat.le_refl _, fun _ => rfl⟩
  | k + 1 => by
    have ih := a_bs_le A v k
    unfold a_bs
    split
    · rename_i h
      exact ⟨by show a_sz A (a_mvO A v k) ≤ _; omega, fun q => by have q : a_sz A (a_mvO A v k) = _ := q; omega⟩
    · exact ih
theorem a_bs_lt {A : a_A} {v : Nat} (h : a_lvl A v < aV A) : ∀ k, k ≤ aV A → (a_bs A v k).2 < aV A
  | 0, _ => h
  | k + 1, hk => by
    have ih := a_bs_lt h k (by omega)
    unfold a_bs
    split
    · show k < _
      omega
    · exact ih
theorem a_best_lt {A : a_A} (hW : aW A) {v : Nat} (hv : v < aV A) : a_best A v < aV A := a_bs_lt (a_lvl_at hW hv).1 _ (Nat.le_refl _)
theorem a_sz_le {A : a_A} (hW : aW A) {ord : Nat → Nat} (ho : aO ord (aV A)) : a_sz A ord ≤ 626 := a_all_626 ho hW.2.2.1 hW.2.2.2.1
theorem a_mvO_O {A : a_A} (hW : aW A) {v l : Nat} (hv : v < aV A) (hl : l < aV A) : aO (a_mvO A v l) (aV A) := a_mv_O hW.2.1 (a_lvl_at hW hv).1 hl
theorem a_bs_626 {A : a_A} (hW : aW A) {v : Nat} : ∀ k, (a_bs A v k).1 ≤ 626 := fun k => Nat.le_trans (a_bs_le A v k).1 (a_sz_le hW hW.2.1)
def a_shf (A : a_A) (v l : Nat) : a_A := setD A (a_mvO A v l)
def a_sft (A : a_A) (v : Nat) : a_A := a_shf A v (a_best A v)
theorem a_shf_W {A : a_A} (hW : aW A) {v l : Nat} (hv : v < aV A) (hl : l < aV A) : aW (a_shf A v l) := setD_W hW (a_mvO_O hW hv hl)
theorem a_sft_W {A : a_A} (hW : aW A) {v : Nat} (hv : v < aV A) : aW (a_sft A v) := a_shf_W hW hv (a_best_lt hW hv)
/-- the first of the greatest -/
def a_mx (f : Nat → Int32) : Nat → Nat
  | 0 => 0
  | k + 1 => if f (a_mx f k) < f k then k else a_mx f k
def a_tst (f : Nat → Int32) (n : Nat) : Nat → Nat → Int32
  | 0 => f
  | k + 1 => mg_u (a_tst f n k) (a_mx (a_tst f n k) n) (-1)
def a_sq (f : Nat → Int32) (n k : Nat) : Nat := a_mx (a_tst f n k) n
def a_sfs (A : a_A) (f : Nat → Int32) : Nat → a_A
  | 0 => A
  | k + 1 => a_sft (a_sfs A f k) (a_sq f (aV A) k)
def a_sfa (A : a_A) : a_A := a_sfs A (a_ts A) (aV A)
theorem a_mx_lt (f : Nat → Int32) : ∀ n, 0 < n → a_mx f n < n
  | 0, h => absurd h (Nat.lt_irrefl 0)
  | k + 1, _ => by
    unfold a_mx
    split
    · omega
    · by_cases h : k = 0
      · subst h
        exact Nat.zero_lt_one
      · have := a_mx_lt f k (by omega)
        omega
theorem a_mx_le (f : Nat → Int32) : ∀ n j, j < n → f j ≤ f (a_mx f n)
  | 0, j, h => absurd h (Nat.not_lt_zero j)
  | k + 1, j, h => by
    unfold a_mx
    split
    · rename_i h2
      by_cases e : j = k
      · rw [e]
        exact Int32.le_refl _
      · exact Int32.le_trans (a_mx_le f k j (by omega)) (Int32.le_of_lt h2)
    · rename_i h2
      by_cases e : j = k
      · rw [e]
        exact Int32.not_lt.mp h2
      · exact a_mx_le f k j (by omega)
theorem a_sfs_V (A : a_A) (f : Nat → Int32) : ∀ k, aV (a_sfs A f k) = aV A
  | 0 => rfl
  | k + 1 => a_sfs_V A f k
theorem a_sfs_W {A : a_A} (hW : aW A) (f : Nat → Int32) : ∀ k, aW (a_sfs A f k)
  | 0 => hW
  | k + 1 => a_sft_W (a_sfs_W hW f k) (by rw [a_sfs_V]; exact a_mx_lt _ _ hW.1)
/-- how many of the first n are not below 0 -/
def a_nn (f : Nat → Int32) : Nat → Nat
  | 0 => 0
  | n + 1 => a_nn f n + (if 0 ≤ f n then 1 else 0)
theorem a_nn_u (f : Nat → Int32) (j : Nat) (hj : 0 ≤ f j) : ∀ n, a_nn (mg_u f j (-1)) n + (if j < n then 1 else 0) = a_nn f n
  | 0 => rfl
  | n + 1 => by
    have ih := a_nn_u f j hj n
    show a_nn (mg_u f j (-1)) n + (if 0 ≤ mg_u f j (-1) n then 1 else 0) + _ = a_nn f n + (if 0 ≤ f n then 1 else 0)
    by_cases e : n = j
    · subst e
      rw [if_neg (Nat.lt_irrefl n)] at ih
      rw [mg_u_eq, if_neg (show ¬ (0 : Int32) ≤ -1 from by decide), if_pos (Nat.lt_succ_self n), if_pos hj]
      omega
    · rw [mg_u_ne _ _ e]
      by_cases h : j < n
      · rw [if_pos h] at ih
        rw [if_pos (show j < n + 1 by omega)]
        omega
      · rw [if_neg h] at ih
        rw [if_neg (show ¬ j < n + 1 by omega)]
        omega
theorem a_nn_ex (f : Nat → Int32) : ∀ n, 0 < a_nn f n → ∃ j, j < n ∧ 0 ≤ f j
  | 0, h => absurd h (Nat.lt_irrefl 0)
  | n + 1, h => by
    by_cases h2 : 0 ≤ f n
    · exact ⟨n, Nat.lt_succ_self n, h2⟩
    · have h : 0 < a_nn f n + (if 0 ≤ f n then 1 else 0) := h
      rw [if_neg h2] at h
      obtain ⟨j, h3, h4⟩ := a_nn_ex f n h
      exact ⟨j, by omega, h4⟩
theorem a_nn_all {f : Nat → Int32} : ∀ n, (∀ j, j < n → 0 ≤ f j) → a_nn f n = n
  | 0, _ => rfl
  | n + 1, h => by
    show a_nn f n + (if 0 ≤ f n then 1 else 0) = n + 1
    rw [a_nn_all n (fun j hj => h j (by omega)), if_pos (h n (Nat.lt_succ_self n))]
theorem a_tst_ok {f : Nat → Int32} {n : Nat} (hf : ∀ j, j < n → 0 ≤ f j) : ∀ k, k ≤ n → a_nn (a_tst f n k) n + k = n ∧ ∀ j, j < n → a_tst f n k j < 0 → a_tst f n k j = -1
  | 0, _ => ⟨a_nn_all n hf, fun j hj h => absurd h (Int32.not_lt.mpr (hf j hj))⟩
  | k + 1, hk => by
    obtain ⟨h1, h2⟩ := a_tst_ok hf k (by omega)
    obtain ⟨j, h3, h4⟩ := a_nn_ex (a_tst f n k) n (by omega)
    have h5 : 0 ≤ a_tst f n k (a_mx (a_tst f n k) n) := Int32.le_trans h4 (a_mx_le _ n j h3)
    have h6 := a_nn_u (a_tst f n k) _ h5 n
    rw [if_pos (a_mx_lt _ n (by omega))] at h6
    refine ⟨by show a_nn (mg_u (a_tst f n k) (a_mx (a_tst f n k) n) (-1)) n + (k + 1) = n; omega, fun i hi h => ?_⟩
    have h : mg_u (a_tst f n k) (a_mx (a_tst f n k) n) (-1) i < 0 := h
    show mg_u (a_tst f n k) (a_mx (a_tst f n k) n) (-1) i = -1
    by_cases e : i = a_mx (a_tst f n k) n
    · rw [e, mg_u_eq]
    · rw [mg_u_ne _ _ e] at h ⊢
      exact h2 i hi h
theorem a_tst_mx {f : Nat → Int32} {n : Nat} (hf : ∀ j, j < n → 0 ≤ f j) {k : Nat} (hk : k < n) : 0 ≤ a_tst f n k (a_mx (a_tst f n k) n) := by
  obtain ⟨h1, h2⟩ := a_tst_ok hf k (by omega)
  obtain ⟨j, h3, h4⟩ := a_nn_ex (a_tst f n k) n (by omega)
  exact Int32.le_trans h4 (a_mx_le _ n j h3)
/-- the place of the next variable in the reference's walk -/
def a_pl (a l k : Nat) : Nat := if (if a < k then k - 1 else k) ≤ l then (if a < k then k - 1 else k) else (if a < k then k - 1 else k) + 1
theorem a_pl_v (a l : Nat) : a_pl a l (a + 1) = a_pl a l a := by
  unfold a_pl
  repeat' split
  all_goals omega
theorem a_pl_l {a l k : Nat} (h : k ≠ a) (h2 : a_pl a l k = l) : a_sg l a k = l + 1 ∧ a_pl a l (k + 1) = l + 1 + 1 := by
  unfold a_pl at *
  unfold a_sg
  constructor
  · repeat' split at h2
    all_goals repeat' split
    all_goals omega
  · repeat' split at h2
    all_goals repeat' split
    all_goals omega
theorem a_pl_n {a l k : Nat} (h : k ≠ a) (h2 : a_pl a l k ≠ l) : a_sg l a k = a_pl a l k ∧ a_pl a l (k + 1) = a_pl a l k + 1 := by
  unfold a_pl at *
  unfold a_sg
  constructor
  · repeat' split at h2
    all_goals repeat' split
    all_goals omega
  · repeat' split at h2
    all_goals repeat' split
    all_goals omega
theorem a_pl_e {a l n p : Nat} (ha : a < n) (hl : l < n) (hp : p < n) (hn : p ≠ l) : p < a_pl a l n := by
  unfold a_pl
  repeat' split
  all_goals omega
theorem a_ts_0 (A : a_A) (hN : gN (aG A) ≤ 628) (v : Nat) : 0 ≤ a_ts A v := by
  have key : ∀ (P : Nat → Bool) n, n < 1000 → ∃ k, k ≤ n ∧ a_sum (fun i => if P i then 1 else 0) n = Int32.ofNat k := by
    intro P n
    induction n with
    | zero => exact fun _ => ⟨0, Nat.le_refl _, rfl⟩
    | succ n ih =>
      intro hn
      obtain ⟨k, h1, h2⟩ := ih (by omega)
      show ∃ k, k ≤ n + 1 ∧ a_sum (fun i => if P i then 1 else 0) n + (if P n then 1 else 0) = Int32.ofNat k
      rw [h2]
      cases P n with
      | true => exact ⟨k + 1, by omega, mg_inc k⟩
      | false => exact ⟨k, by omega, Int32.add_zero _⟩
  obtain ⟨k, h1, h2⟩ := key (fun i => decide (aD A (gL (aG A) (i + 2)) = v)) (gN (aG A) - 2) (by omega)
  have e : a_ts A v = Int32.ofNat k := by
    rw [← h2]
    unfold a_ts
    exact a_sum_c fun i _ => by simp only [decide_eq_true_eq]
  rw [e]
  exact (mg_leN (a := 0) (by decide) (by omega)).mpr (Nat.zero_le k)
theorem aW.gN {A : a_A} (h : aW A) : gN (aG A) ≤ 628 := by
  have := h.N
  show (aN A).length + 2 ≤ 628
  omega
