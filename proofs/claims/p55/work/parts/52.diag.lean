abbrev a_zero : a_T := (0, 0, 0, 0)
abbrev a_one : a_T := (-1, -1, -1, -1)
theorem a_zero_at : ∀ k, k < 256 → a_at a_zero k = false := by decide +kernel
theorem a_one_at : ∀ k, k < 256 → a_at a_one k = true := by decide +kernel
theorem a_sb_lt : ∀ v, v < 8 → ∀ k, k < 256 → a_sb k v true < 256 ∧ a_sb k v false < 256 ∧ a_sb k v (k.testBit v) = k := by decide +kernel
theorem a_sb_sb : ∀ v, v < 8 → ∀ k, k < 256 → a_sb (a_sb k v true) v true = a_sb k v true ∧ a_sb (a_sb k v true) v false = a_sb k v false ∧ a_sb (a_sb k v false) v true = a_sb k v true ∧ a_sb (a_sb k v false) v false = a_sb k v false := by decide +kernel
theorem a_sb_0 : ∀ k, k < 256 → a_sb (a_sb (a_sb (a_sb (a_sb (a_sb (a_sb (a_sb k 0 false) 1 false) 2 false) 3 false) 4 false) 5 false) 6 false) 7 false = 0 := by decide +kernel
theorem a_sb_c : ∀ v, v < 8 → ∀ w, w < 8 → ∀ k, k < 256 → v = w ∨ (a_sb (a_sb k v true) w true = a_sb (a_sb k w true) v true ∧ a_sb (a_sb k v true) w false = a_sb (a_sb k w false) v true ∧ a_sb (a_sb k v false) w true = a_sb (a_sb k w true) v false ∧ a_sb (a_sb k v false) w false = a_sb (a_sb k w false) v false) := by decide +kernel
theorem a_sb_lt' (v : Nat) (hv : v < 8) (k : Nat) (hk : k < 256) (x : Bool) : a_sb k v x < 256 := by
  obtain ⟨h1, h2, -⟩ := a_sb_lt v hv k hk
  cases x
  · exact h2
  · exact h1
theorem a_sb_sb' (v : Nat) (hv : v < 8) (k : Nat) (hk : k < 256) (x y : Bool) : a_sb (a_sb k v x) v y = a_sb k v y := by
  obtain ⟨h1, h2, h3, h4⟩ := a_sb_sb v hv k hk
  cases x <;> cases y <;> assumption
theorem a_sb_c' (v : Nat) (hv : v < 8) (w : Nat) (hw : w < 8) (hn : v ≠ w) (k : Nat) (hk : k < 256) (x y : Bool) : a_sb (a_sb k v x) w y = a_sb (a_sb k w y) v x := by
  obtain ⟨h1, h2, h3, h4⟩ := (a_sb_c v hv w hw k hk).resolve_left hn
  cases x <;> cases y <;> assumption
/-- the cofactor, by a truth value -/
def a_cf (T : a_T) (v : Nat) (x : Bool) : a_T := a_cof a_m T v (if x then 1 else 0)
theorem a_cf_at (T : a_T) (v : Nat) (hv : v < 8) (x : Bool) (k : Nat) (hk : k < 256) : a_at (a_cf T v x) k = a_at T (a_sb k v x) := a_cof_at T v hv x k hk
/-- T depends on v -/
def a_dp (T : a_T) (v : Nat) : Bool := a_dep a_m T v
theorem a_dp_iff (T : a_T) (v : Nat) : a_dp T v = true ↔ a_cf T v false ≠ a_cf T v true := by
  show decide (a_cof a_m T v 0 ≠ a_cof a_m T v 1) = true ↔ _
  rw [decide_eq_true_iff]
  exact Iff.rfl
theorem a_dp_no {T : a_T} {v : Nat} (hv : v < 8) (h : a_dp T v = false) (x : Bool) : a_cf T v x = T := by
  have h1 : a_cf T v false = a_cf T v true := Decidable.byContradiction fun q => by
    rw [(a_dp_iff T v).mpr q] at h
    cases h
  refine a_at_ext fun k hk => ?_
  have h2 : ∀ y, a_at (a_cf T v y) k = a_at (a_cf T v x) k := by
    intro y
    cases x <;> cases y <;> first | rfl | rw [h1]
  rw [← h2 (k.testBit v), a_cf_at T v hv _ k hk, (a_sb_lt v hv k hk).2.2]
theorem a_dp_of {T : a_T} {v : Nat} (h : a_cf T v false = a_cf T v true) : a_dp T v = false := by
  cases e : a_dp T v with
  | false => rfl
  | true => exact absurd h ((a_dp_iff T v).mp e)
/-- a table that depends on nothing is constant -/
theorem a_const {T : a_T} (h : ∀ v, v < 8 → a_dp T v = false) : T = a_zero ∨ T = a_one := by
  have step : ∀ v, v < 8 → ∀ k, k < 256 → a_at T k = a_at T (a_sb k v false) := fun v hv k hk => by
    rw [← a_cf_at T v hv false k hk, a_dp_no hv (h v hv)]
  have key : ∀ k, k < 256 → a_at T k = a_at T 0 := by
    intro k hk
    have l0 := a_sb_lt' 0 (by decide) k hk false
    have l1 := a_sb_lt' 1 (by decide) _ l0 false
    have l2 := a_sb_lt' 2 (by decide) _ l1 false
    have l3 := a_sb_lt' 3 (by decide) _ l2 false
    have l4 := a_sb_lt' 4 (by decide) _ l3 false
    have l5 := a_sb_lt' 5 (by decide) _ l4 false
    have l6 := a_sb_lt' 6 (by decide) _ l5 false
    rw [step 0 (by decide) k hk, step 1 (by decide) _ l0, step 2 (by decide) _ l1, step 3 (by decide) _ l2, step 4 (by decide) _ l3, step 5 (by decide) _ l4, step 6 (by decide) _ l5, step 7 (by decide) _ l6, a_sb_0 k hk]
  cases e : a_at T 0 with
  | false => exact Or.inl (a_at_ext fun k hk => by rw [key k hk, e, a_zero_at k hk])
  | true => exact Or.inr (a_at_ext fun k hk => by rw [key k hk, e, a_one_at k hk])
theorem a_cf_self (T : a_T) {v : Nat} (hv : v < 8) (x : Bool) : a_dp (a_cf T v x) v = false := by
  refine a_dp_of (a_at_ext fun k hk => ?_)
  rw [a_cf_at _ v hv _ k hk, a_cf_at _ v hv _ k hk, a_cf_at _ v hv _ _ (a_sb_lt' v hv k hk _), a_cf_at _ v hv _ _ (a_sb_lt' v hv k hk _), a_sb_sb' v hv k hk, a_sb_sb' v hv k hk]
theorem a_cf_dp {T : a_T} {v w : Nat} (hv : v < 8) (hw : w < 8) (x : Bool) (h : a_dp T w = false) : a_dp (a_cf T v x) w = false := by
  by_cases e : v = w
  · subst e
    exact a_cf_self T hv x
  · refine a_dp_of (a_at_ext fun k hk => ?_)
    rw [a_cf_at _ w hw _ k hk, a_cf_at _ w hw _ k hk, a_cf_at _ v hv _ _ (a_sb_lt' w hw k hk _), a_cf_at _ v hv _ _ (a_sb_lt' w hw k hk _), a_sb_c' w hw v hv (fun q => e q.symm) k hk, a_sb_c' w hw v hv (fun q => e q.symm) k hk,
      ← a_cf_at T w hw _ _ (a_sb_lt' v hv k hk _), ← a_cf_at T w hw _ _ (a_sb_lt' v hv k hk _), a_dp_no hw h, a_dp_no hw h]
/-- the first level from l on that T depends on (l + n: none of n) -/
def a_lev (ord : Nat → Nat) (T : a_T) : Nat → Nat → Nat
  | l, 0 => l
  | l, n + 1 => if a_dp T (ord l) = true then l else a_lev ord T (l + 1) n
theorem a_lev_le (ord : Nat → Nat) (T : a_T) : ∀ n l, l ≤ a_lev ord T l n ∧ a_lev ord T l n ≤ l + n
  | 0, l => ⟨Nat.le_refl _, Nat.le_refl _⟩
  | n + 1, l => by
    unfold a_lev
    split
    · omega
    · have := a_lev_le ord T n (l + 1)
      omega
theorem a_lev_no (ord : Nat → Nat) (T : a_T) : ∀ n l j, l ≤ j → j < a_lev ord T l n → a_dp T (ord j) = false
  | 0, l, j, h1, h2 => absurd h1 (Nat.not_le.mpr h2)
  | n + 1, l, j, h1, h2 => by
    unfold a_lev at h2
    split at h2
    · omega
    · rename_i h3
      rcases Nat.lt_or_eq_of_le h1 with h4 | rfl
      · exact a_lev_no ord T n (l + 1) j h4 h2
      · simpa using h3
theorem a_lev_yes (ord : Nat → Nat) (T : a_T) : ∀ n l, a_lev ord T l n < l + n → a_dp T (ord (a_lev ord T l n)) = true
  | 0, l, h => absurd h (Nat.lt_irrefl _)
  | n + 1, l, h => by
    unfold a_lev at h ⊢
    split
    · assumption
    · rename_i h3
      rw [if_neg h3] at h
      exact a_lev_yes ord T n (l + 1) (by omega)
/-- the tables of the inner nodes, in the order of their numbers: n bounds the depth -/
def a_vis (ord : Nat → Nat) (nv : Nat) : Nat → a_T → List a_T → List a_T
  | 0, _, ts => ts
  | n + 1, T, ts => if T = a_zero ∨ T = a_one ∨ T ∈ ts then ts else a_vis ord nv n (a_cf T (ord (a_lev ord T 0 nv)) true) (a_vis ord nv n (a_cf T (ord (a_lev ord T 0 nv)) false) (ts ++ [T]))
theorem a_vis_pre (ord : Nat → Nat) (nv : Nat) : ∀ n T ts, ∃ s, a_vis ord nv n T ts = ts ++ s
  | 0, T, ts => ⟨[], (List.append_nil ts).symm⟩
  | n + 1, T, ts => by
    unfold a_vis
    split
    · exact ⟨[], (List.append_nil ts).symm⟩
    · obtain ⟨s1, h1⟩ := a_vis_pre ord nv n (a_cf T (ord (a_lev ord T 0 nv)) false) (ts ++ [T])
      obtain ⟨s2, h2⟩ := a_vis_pre ord nv n (a_cf T (ord (a_lev ord T 0 nv)) true) (ts ++ [T] ++ s1)
      exact ⟨[T] ++ s1 ++ s2, by rw [h1, h2]; simp [List.append_assoc]⟩
theorem a_vis_nd (ord : Nat → Nat) (nv : Nat) : ∀ n T ts, ts.Nodup → (a_vis ord nv n T ts).Nodup
  | 0, T, ts, h => h
  | n + 1, T, ts, h => by
    unfold a_vis
    split
    · exact h
    · rename_i h3
      refine a_vis_nd ord nv n _ _ (a_vis_nd ord nv n _ _ ?_)
      rw [List.nodup_append]
      refine ⟨h, by simp, fun a ha b hb => ?_⟩
      rw [List.mem_singleton] at hb
      subst hb
      exact fun e => h3 (Or.inr (Or.inr (e ▸ ha)))
