/-! CLASS, STATE: object s, tables s + 1 (bits s + 2), functionNames s + 3, variableNames s + 4, order s + 5, costs s + 6, percents s + 7 -/
def a_fst (P : Nat → Bool) : Nat → Nat → Option Nat
  | _, 0 => none
  | k, m + 1 => if P k = true then some k else a_fst P (k + 1) m
/-- the first k < n with P -/
def a_ff (P : Nat → Bool) (n : Nat) : Option Nat := a_fst P 0 n
def a_oi (o : Option Nat) : Int32 := match o with
  | none => Int32.ofInt (-1)
  | some k => Int32.ofNat k
theorem a_fst_some {P : Nat → Bool} : ∀ m i k, i ≤ k → k < i + m → P k = true → (∀ j, i ≤ j → j < k → P j = false) → a_fst P i m = some k
  | 0, i, k, h1, h2, _, _ => by omega
  | m + 1, i, k, h1, h2, h3, h4 => by
    unfold a_fst
    rcases Nat.lt_or_eq_of_le h1 with h | rfl
    · rw [h4 i (Nat.le_refl _) h, if_neg (by decide)]
      exact a_fst_some m (i + 1) k h (by omega) h3 (fun j a b => h4 j (by omega) b)
    · rw [if_pos h3]
theorem a_fst_none {P : Nat → Bool} : ∀ m i, (∀ j, i ≤ j → j < i + m → P j = false) → a_fst P i m = none
  | 0, i, _ => rfl
  | m + 1, i, h => by
    unfold a_fst
    rw [h i (Nat.le_refl _) (by omega), if_neg (by decide)]
    exact a_fst_none m (i + 1) (fun j a b => h j (by omega) (by omega))
theorem a_ff_some {P : Nat → Bool} {n k : Nat} (h1 : k < n) (h2 : P k = true) (h3 : ∀ j, j < k → P j = false) : a_ff P n = some k := a_fst_some n 0 k (Nat.zero_le _) (by omega) h2 (fun j _ h => h3 j h)
theorem a_ff_none {P : Nat → Bool} {n : Nat} (h : ∀ j, j < n → P j = false) : a_ff P n = none := a_fst_none n 0 (fun j _ h2 => h j (by omega))
theorem a_fst_is {P : Nat → Bool} : ∀ m i, (∃ k, i ≤ k ∧ k < i + m ∧ a_fst P i m = some k ∧ P k = true ∧ ∀ j, i ≤ j → j < k → P j = false) ∨ (a_fst P i m = none ∧ ∀ j, i ≤ j → j < i + m → P j = false)
  | 0, i => Or.inr ⟨rfl, fun j a b => by omega⟩
  | m + 1, i => by
    cases h : P i with
    | true => exact Or.inl ⟨i, Nat.le_refl _, by omega, a_fst_some _ _ _ (Nat.le_refl _) (by omega) h (fun j a b => by omega), h, fun j a b => by omega⟩
    | false =>
      have e : a_fst P i (m + 1) = a_fst P (i + 1) m := by
        conv => lhs; unfold a_fst
        rw [h, if_neg (by decide)]
      rw [e]
      rcases a_fst_is (P := P) m (i + 1) with ⟨k, h1, h2, h3, h4, h5⟩ | ⟨h1, h2⟩
      · exact Or.inl ⟨k, by omega, by omega, h3, h4, fun j a b => by
          rcases Nat.lt_or_eq_of_le a with q | rfl
          · exact h5 j q b
          · exact h⟩
      · exact Or.inr ⟨h1, fun j a b => by
          rcases Nat.lt_or_eq_of_le a with q | rfl
          · exact h2 j q (by omega)
          · exact h⟩
theorem a_ff_is (P : Nat → Bool) (n : Nat) : (∃ k, k < n ∧ a_ff P n = some k ∧ P k = true ∧ ∀ j, j < k → P j = false) ∨ (a_ff P n = none ∧ ∀ j, j < n → P j = false) := by
  rcases a_fst_is (P := P) n 0 with ⟨k, h1, h2, h3, h4, h5⟩ | ⟨h1, h2⟩
  · exact Or.inl ⟨k, by omega, h3, h4, fun j b => h5 j (Nat.zero_le _) b⟩
  · exact Or.inr ⟨h1, fun j b => h2 j (Nat.zero_le _) (by omega)⟩
theorem a_ff_c {P R : Nat → Bool} {n : Nat} (h : ∀ k, k < n → P k = R k) : a_ff P n = a_ff R n := by
  rcases a_ff_is P n with ⟨k, h1, h2, h3, h4⟩ | ⟨h1, h2⟩
  · rw [h2, a_ff_some h1 (by rw [← h k h1]; exact h3) (fun j hj => by rw [← h j (by omega)]; exact h4 j hj)]
  · rw [h1, a_ff_none (fun j hj => by rw [← h j hj]; exact h2 j hj)]
def kS (K : mg_K) (s : Nat) : Prop := K.2[s]? = some (.inr (5, [some (.ref (s + 1)), some (.ref (s + 3)), some (.ref (s + 4)), some (.ref (s + 5)), some (.ref (s + 6)), some (.ref (s + 7)), none, none])) ∧ kT K (s + 1) (s + 2) 56 ∧ K.2[s + 3]? = some (.inl (1, 12)) ∧ K.2[s + 4]? = some (.inl (1, 8)) ∧ K.2[s + 5]? = some (.inl (0, 8)) ∧ K.2[s + 6]? = some (.inl (0, 8)) ∧ K.2[s + 7]? = some (.inl (0, 8)) ∧ s + 7 < 1000000
section KS
variable {K : mg_K} {s : Nat} {G : mg_G}
theorem kS.t (h : kS K s) : mg_F K G s 5 0 (.ref (s + 1)) := mg_Fs h.1 rfl
theorem kS.fn (h : kS K s) : mg_F K G s 5 1 (.ref (s + 3)) := mg_Fs h.1 rfl
theorem kS.vn (h : kS K s) : mg_F K G s 5 2 (.ref (s + 4)) := mg_Fs h.1 rfl
theorem kS.od (h : kS K s) : mg_F K G s 5 3 (.ref (s + 5)) := mg_Fs h.1 rfl
theorem kS.co (h : kS K s) : mg_F K G s 5 4 (.ref (s + 6)) := mg_Fs h.1 rfl
theorem kS.pe (h : kS K s) : mg_F K G s 5 5 (.ref (s + 7)) := mg_Fs h.1 rfl
theorem kS.nf (h : kS K s) {v : Value} (e : G.2.2.2.2 s 6 = v) : mg_F K G s 5 6 v := mg_Fe e h.1 rfl
theorem kS.nv (h : kS K s) {v : Value} (e : G.2.2.2.2 s 7 = v) : mg_F K G s 5 7 v := mg_Fe e h.1 rfl
theorem kS.T (h : kS K s) : kT K (s + 1) (s + 2) 56 := h.2.1
theorem kS.A3 (h : kS K s) : mg_A K G (s + 3) 1 12 (.inr (.inl (G.2.1 (s + 3)))) := mg_Al h.2.2.1 (by have := h.2.2.2.2.2.2.2; omega)
theorem kS.A4 (h : kS K s) : mg_A K G (s + 4) 1 8 (.inr (.inl (G.2.1 (s + 4)))) := mg_Al h.2.2.2.1 (by have := h.2.2.2.2.2.2.2; omega)
theorem kS.A5 (h : kS K s) : mg_A K G (s + 5) 0 8 (.inl (G.1 (s + 5))) := mg_Ai h.2.2.2.2.1 (by have := h.2.2.2.2.2.2.2; omega)
theorem kS.A6 (h : kS K s) : mg_A K G (s + 6) 0 8 (.inl (G.1 (s + 6))) := mg_Ai h.2.2.2.2.2.1 (by have := h.2.2.2.2.2.2.2; omega)
theorem kS.A7 (h : kS K s) : mg_A K G (s + 7) 0 8 (.inl (G.1 (s + 7))) := mg_Ai h.2.2.2.2.2.2.1 h.2.2.2.2.2.2.2
theorem kS.s3 (h : kS K s) : K.2[s + 3]? = some (.inl (1, 12)) := h.2.2.1
theorem kS.s4 (h : kS K s) : K.2[s + 4]? = some (.inl (1, 8)) := h.2.2.2.1
theorem kS.s5 (h : kS K s) : K.2[s + 5]? = some (.inl (0, 8)) := h.2.2.2.2.1
theorem kS.s6 (h : kS K s) : K.2[s + 6]? = some (.inl (0, 8)) := h.2.2.2.2.2.1
theorem kS.s7 (h : kS K s) : K.2[s + 7]? = some (.inl (0, 8)) := h.2.2.2.2.2.2.1
theorem kS.is (h : kS K s) {r : List Value} : mg_isr K 5 (.ref s :: r) := ⟨_, h.1⟩
end KS
theorem mg_bnd : ∀ nv, nv < 9 → (1 : Int32) <<< (Int32.ofNat nv &&& 31) = Int32.ofNat (2 ^ nv) ∧ 2 ^ nv ≤ 256 ∧ ∀ k, k < 256 → k < 2 ^ nv → k / 64 < a_wds nv := by decide +kernel
/-- bit v of an assignment, as an int -/
theorem mg_abit : ∀ v, v < 8 → ∀ k, k < 256 → (Int32.ofNat k >>> (Int32.ofNat v &&& 31) &&& Int32.ofInt 1) = (if k.testBit v then 1 else 0) := by decide +kernel
theorem mg_aor : ∀ v, v < 8 → ∀ k, k < 256 → (Int32.ofNat k ||| ((1 : Int32) <<< (Int32.ofNat v &&& 31))) = Int32.ofNat (a_sb k v true) := by decide +kernel
theorem mg_axor : ∀ v, v < 8 → ∀ k, k < 256 → (Int32.ofNat k ^^^ ((1 : Int32) <<< (Int32.ofNat v &&& 31))) = Int32.ofNat (a_sb k v (!k.testBit v)) := by decide +kernel
theorem a_sb_b : ∀ nv, nv < 9 → ∀ v, v < nv → ∀ k, k < 2 ^ nv → a_sb k v true < 2 ^ nv ∧ a_sb k v false < 2 ^ nv := by decide +kernel
section CS
variable {K : mg_K} {s : Nat} {G : mg_G} {nv nf n : Nat}
theorem c71 (d : Nat) (H : kS K s) (h8 : nv < 9) (e : G.2.2.2.2 s 7 = .int (Int32.ofNat nv)) : mg_m K (d + 1) 71 [.ref s] G (mg_v (.int (Int32.ofNat (2 ^ nv))) G) := by
  refine mg_me [] 10 my_71 ms_71 (Nat.le_of_ble_eq_true rfl) ?_
  refine ⟨_, H.nv e, Or.inl rfl, ?_, rfl, rfl⟩
  rw [← (mg_bnd nv h8).1]
  rfl
theorem c89n (d r k : Nat) {a b N : Nat} {T : a_T} (H : kT K a b N) (hT : cRow G b r n T) (hk : k < 256) (hkn : k / 64 < n) (hr : 4 * r + n ≤ N) : mg_m K (d + 1) 89 [.ref a, .int (Int32.ofNat r), .int (Int32.ofNat k)] G (mg_v (.int (a_atI T k)) G) := by
  have := c89 (K := K) (G := G) d r k H hk (by omega)
  rw [hT _ hkn] at this
  exact this
theorem c70 (d : Nat) (H : kS K s) (h8 : nv < 9) (e : G.2.2.2.2 s 7 = .int (Int32.ofNat nv)) (x : Int32) {lev : Nat} (hl : lev < nv) (he : G.1 (s + 5) lev = x) (hno : ∀ j, j < lev → G.1 (s + 5) j ≠ x) : mg_m K (d + 1) 70 [.ref s, .int x] G (mg_v (.int (Int32.ofNat lev)) G) := by
  refine mg_me [2] 10 my_70 ms_70 (Nat.le_of_ble_eq_true rfl) ?_
  refine mg_loop lev (fun k L G' => L = [some (.ref s), some (.int x), some (.int (Int32.ofNat k))] ∧ G' = G) ?_ ?_ _ _ ⟨rfl, rfl⟩
  · rintro k L G' hk ⟨rfl, rfl⟩ ih
    refine mg_go [2] 40 2 ms_70 ?_
    refine ⟨_, H.nv e, fun h => absurd h (mg_nle (by omega) (by omega)), fun _ => ⟨_, H.od, 8, _, k, H.A5, mg_ixN (by omega), by omega, fun _ => ih _ _ ⟨by rw [← mg_inc k] <;> rfl, rfl⟩, fun h => absurd h (hno k hk)⟩⟩
  · rintro L G' ⟨rfl, rfl⟩
    refine mg_go [2] 40 2 ms_70 ?_
    exact ⟨_, H.nv e, fun h => absurd h (mg_nle (by omega) (by omega)), fun _ => ⟨_, H.od, 8, _, lev, H.A5, mg_ixN (by omega), by omega, fun h => absurd he h, fun _ => ⟨Or.inl rfl, rfl, rfl, rfl⟩⟩⟩
theorem c69 (d : Nat) (H : kS K s) (h8 : nv < 9) (e : G.2.2.2.2 s 7 = .int (Int32.ofNat nv)) (x : Int64) : mg_m K (d + 1) 69 [.ref s, .long x] G (mg_v (.int (a_oi (a_ff (fun v => decide (G.2.1 (s + 4) v = x)) nv))) G) := by
  refine mg_me [2] 10 my_69 ms_69 (Nat.le_of_ble_eq_true rfl) ?_
  refine mg_loop nv (fun k L G' => L = [some (.ref s), some (.long x), none, some (.int (Int32.ofNat k))] ∧ G' = G ∧ ∀ j, j < k → G.2.1 (s + 4) j ≠ x) ?_ ?_ _ _ ⟨rfl, rfl, fun j h => absurd h (Nat.not_lt_zero _)⟩
  · rintro k L G' hk ⟨rfl, rfl, hI⟩ ih
    refine mg_go [2] 40 2 ms_69 ?_
    refine ⟨_, H.nv e, fun h => absurd h (mg_nle (by omega) (by omega)), fun _ => ⟨_, H.vn, 8, _, k, H.A4, mg_ixN (by omega), by omega, fun h => ?_, fun h => ?_⟩⟩
    · refine ih _ _ ⟨by rw [← mg_inc k], rfl, fun j hj => ?_⟩
      rcases Nat.lt_or_eq_of_le (Nat.le_of_lt_succ hj) with h9 | rfl
      · exact hI j h9
      · exact fun q => h ((lg_cmp_eq _ _).mpr q)
    · refine ⟨Or.inl rfl, ?_, rfl, rfl⟩
      rw [a_ff_some hk (decide_eq_true ((lg_cmp_eq _ _).mp h)) (fun j hj => decide_eq_false (hI j hj))]
      rfl
  · rintro L G' ⟨rfl, rfl, hI⟩
    refine mg_go [2] 40 2 ms_69 ?_
    refine ⟨_, H.nv e, fun _ => ⟨Or.inl rfl, ?_, rfl, rfl⟩, fun h => absurd h (Int32.not_lt.mpr (Int32.le_refl _))⟩
    rw [a_ff_none (fun j hj => decide_eq_false (hI j hj))]
    rfl
theorem c68 (d : Nat) (H : kS K s) (h12 : nf ≤ 12) (e : G.2.2.2.2 s 6 = .int (Int32.ofNat nf)) (x : Int64) : mg_m K (d + 1) 68 [.ref s, .long x] G (mg_v (.int (a_oi (a_ff (fun v => decide (x ≠ 0 ∧ G.2.1 (s + 3) v = x)) nf))) G) := by
  refine mg_me [2] 10 my_68 ms_68 (Nat.le_of_ble_eq_true rfl) ?_
  refine mg_loop nf (fun k L G' => L = [some (.ref s), some (.long x), none, some (.int (Int32.ofNat k))] ∧ G' = G ∧ ∀ j, j < k → ¬ (x ≠ 0 ∧ G.2.1 (s + 3) j = x)) ?_ ?_ _ _ ⟨rfl, rfl, fun j h => absurd h (Nat.not_lt_zero _)⟩
  · rintro k L G' hk ⟨rfl, rfl, hI⟩ ih
    have step : ¬ (x ≠ 0 ∧ G'.2.1 (s + 3) k = x) → ∀ j, j < k + 1 → ¬ (x ≠ 0 ∧ G'.2.1 (s + 3) j = x) := fun h9 j hj => by
      rcases Nat.lt_or_eq_of_le (Nat.le_of_lt_succ hj) with h9 | rfl
      · exact hI j h9
      · exact h9
    refine mg_go [2] 40 2 ms_68 ?_
    refine ⟨_, H.nf e, fun h => absurd h (mg_nle (by omega) (by omega)), fun _ => ⟨fun h0 => ?_, fun h0 => ?_⟩⟩
    · exact ih _ _ ⟨by rw [← mg_inc k], rfl, step (fun q => q.1 ((lg_cmp_eq _ _).mp h0))⟩
    · refine ⟨_, H.fn, 12, _, k, H.A3, mg_ixN (by omega), by omega, fun h => ?_, fun h => ?_⟩
      · exact ih _ _ ⟨by rw [← mg_inc k], rfl, step (fun q => h ((lg_cmp_eq _ _).mpr q.2))⟩
      · refine ⟨Or.inl rfl, ?_, rfl, rfl⟩
        rw [a_ff_some hk (decide_eq_true ⟨fun q => h0 ((lg_cmp_eq _ _).mpr q), (lg_cmp_eq _ _).mp h⟩) (fun j hj => decide_eq_false (hI j hj))]
        rfl
  · rintro L G' ⟨rfl, rfl, hI⟩
    refine mg_go [2] 40 2 ms_68 ?_
    refine ⟨_, H.nf e, fun _ => ⟨Or.inl rfl, ?_, rfl, rfl⟩, fun h => absurd h (Int32.not_lt.mpr (Int32.le_refl _))⟩
    rw [a_ff_none (fun j hj => decide_eq_false (hI j hj))]
    rfl
theorem c72 (d r : Nat) (H : kS K s) (h8 : nv < 9) (e : G.2.2.2.2 s 7 = .int (Int32.ofNat nv)) {T : a_T} (hr : r < 14) (hT : cRow G (s + 2) r (a_wds nv) T) : mg_m K (d + 2) 72 [.ref s, .int (Int32.ofNat r)] G (mg_v (.int (a_sum (a_atI T) (2 ^ nv))) G) := by
  obtain ⟨-, b1, b2⟩ := mg_bnd nv h8
  have hn4 := (a_wds_i nv (by omega)).1
  refine mg_me [4] 10 my_72 ms_72 (Nat.le_of_ble_eq_true rfl) ?_
  refine mg_loop (2 ^ nv) (fun k L G' => L = [some (.ref s), some (.int (Int32.ofNat r)), some (.int (a_sum (a_atI T) k)), some (.int (Int32.ofNat k))] ∧ G' = G) ?_ ?_ _ _ ⟨rfl, rfl⟩
  · rintro k L G' hk ⟨rfl, rfl⟩ ih
    refine mg_go [4] 40 4 ms_72 ?_
    refine ⟨Or.inr H.is, mg_cv (c71 d H h8 e) (by omega) ⟨fun h => absurd h (mg_nle (by omega) (by omega)), fun _ => ⟨_, H.t, Or.inr H.T.is, mg_cv (c89n d r k H.T hT (by omega) (b2 k (by omega) hk) (by omega)) (by omega) ?_⟩⟩⟩
    exact ih _ _ ⟨by rw [← mg_inc k] <;> rfl, rfl⟩
  · rintro L G' ⟨rfl, rfl⟩
    refine mg_go [4] 40 4 ms_72 ?_
    exact ⟨Or.inr H.is, mg_cv (c71 d H h8 e) (by omega) ⟨fun _ => ⟨Or.inl rfl, rfl, rfl, rfl⟩, fun h => absurd h (Int32.not_lt.mpr (Int32.le_refl _))⟩⟩
theorem c73 (d r : Nat) (H : kS K s) (h8 : nv < 9) (e : G.2.2.2.2 s 7 = .int (Int32.ofNat nv)) {T : a_T} (hr : r < 14) (hT : cRow G (s + 2) r (a_wds nv) T) (x : Int32) : mg_m K (d + 2) 73 [.ref s, .int (Int32.ofNat r), .int x] G (mg_v (.int (a_oi (a_ff (fun k => a_at T k && decide (a_sum (a_atI T) k = x)) (2 ^ nv)))) G) := by
  obtain ⟨-, b1, b2⟩ := mg_bnd nv h8
  have hn4 := (a_wds_i nv (by omega)).1
  refine mg_me [5] 10 my_73 ms_73 (Nat.le_of_ble_eq_true rfl) ?_
  refine mg_loop (2 ^ nv) (fun k L G' => L = [some (.ref s), some (.int (Int32.ofNat r)), some (.int x), some (.int (a_sum (a_atI T) k)), some (.int (Int32.ofNat k))] ∧ G' = G ∧ ∀ j, j < k → (a_at T j && decide (a_sum (a_atI T) j = x)) = false) ?_ ?_ _ _ ⟨rfl, rfl, fun j h => absurd h (Nat.not_lt_zero _)⟩
  · rintro k L G' hk ⟨rfl, rfl, hI⟩ ih
    have step : (a_at T k && decide (a_sum (a_atI T) k = x)) = false → ∀ j, j < k + 1 → (a_at T j && decide (a_sum (a_atI T) j = x)) = false := fun h9 j hj => by
      rcases Nat.lt_or_eq_of_le (Nat.le_of_lt_succ hj) with h9 | rfl
      · exact hI j h9
      · exact h9
    have es : a_sum (a_atI T) (k + 1) = a_sum (a_atI T) k + a_atI T k := rfl
    have hv := c89n (K := K) (G := G') (n := a_wds nv) d r k H.T hT (by omega) (b2 k (by omega) hk) (by omega)
    rw [es, ← mg_inc k] at ih
    cases hb : a_at T k with
    | false =>
      have e0 : a_atI T k = 0 := by unfold a_atI; rw [hb]; rfl
      rw [e0] at hv ih
      rw [Int32.add_zero] at ih
      refine mg_go [5] 60 5 ms_73 ?_
      exact ⟨Or.inr H.is, mg_cv (c71 d H h8 e) (by omega) ⟨fun h => absurd h (mg_nle (by omega) (by omega)), fun _ => ⟨_, H.t, Or.inr H.T.is, mg_cv hv (by omega) ⟨fun _ => ih _ _ ⟨rfl, rfl, step (by rw [hb, Bool.false_and])⟩, fun h => absurd h (by decide)⟩⟩⟩⟩
    | true =>
      have e0 : a_atI T k = 1 := by unfold a_atI; rw [hb]; rfl
      rw [e0] at hv ih
      refine mg_go [5] 60 5 ms_73 ?_
      refine ⟨Or.inr H.is, mg_cv (c71 d H h8 e) (by omega) ⟨fun h => absurd h (mg_nle (by omega) (by omega)), fun _ => ⟨_, H.t, Or.inr H.T.is, mg_cv hv (by omega) ⟨fun h => absurd rfl h, fun _ => ⟨fun h => ?_, fun h => ?_⟩⟩⟩⟩⟩
      · exact ih _ _ ⟨rfl, rfl, step (by rw [hb, Bool.true_and, decide_eq_false h])⟩
      · refine ⟨Or.inl rfl, ?_, rfl, rfl⟩
        rw [a_ff_some hk (by rw [hb, Bool.true_and]; exact decide_eq_true h) hI]
        rfl
  · rintro L G' ⟨rfl, rfl, hI⟩
    refine mg_go [5] 40 5 ms_73 ?_
    refine ⟨Or.inr H.is, mg_cv (c71 d H h8 e) (by omega) ⟨fun _ => ⟨Or.inl rfl, ?_, rfl, rfl⟩, fun h => absurd h (Int32.not_lt.mpr (Int32.le_refl _))⟩⟩
    rw [a_ff_none hI]
    rfl
/-- where T leaves x as v changes from 0 to 1 -/
def a_stp (T : a_T) (v : Nat) (x : Bool) (k : Nat) : Bool := !k.testBit v && (a_at T k == x) && (a_at T (a_sb k v true) != x)
theorem c74 (d r v : Nat) (x : Bool) (H : kS K s) (h8 : nv < 9) (hv : v < nv) (e : G.2.2.2.2 s 7 = .int (Int32.ofNat nv)) {T : a_T} (hr : r < 14) (hT : cRow G (s + 2) r (a_wds nv) T) : mg_m K (d + 2) 74 [.ref s, .int (Int32.ofNat r), .int (Int32.ofNat v), .int (if x then 1 else 0)] G (mg_v (.int (a_sum (fun k => if a_stp T v x k then 1 else 0) (2 ^ nv))) G) := by
  obtain ⟨-, b1, b2⟩ := mg_bnd nv h8
  have hn4 := (a_wds_i nv (by omega)).1
  refine mg_me [6] 10 my_74 ms_74 (Nat.le_of_ble_eq_true rfl) ?_
  refine mg_loop (2 ^ nv) (fun k L G' => L = [some (.ref s), some (.int (Int32.ofNat r)), some (.int (Int32.ofNat v)), some (.int (if x then 1 else 0)), some (.int (a_sum (fun k => if a_stp T v x k then 1 else 0) k)), some (.int (Int32.ofNat k))] ∧ G' = G) ?_ ?_ _ _ ⟨rfl, rfl⟩
  · rintro k L G' hk ⟨rfl, rfl⟩ ih
    have es : a_sum (fun k => if a_stp T v x k then (1 : Int32) else 0) (k + 1) = a_sum (fun k => if a_stp T v x k then (1 : Int32) else 0) k + (if a_stp T v x k then (1 : Int32) else 0) := rfl
    have nx : a_stp T v x k = false → mg_wp K mc_74 (d + 1) 6 [some (.ref s), some (.int (Int32.ofNat r)), some (.int (Int32.ofNat v)), some (.int (if x then 1 else 0)), some (.int (a_sum (fun k => if a_stp T v x k then 1 else 0) k)), some (.int (Int32.ofNat k + Int32.ofInt 1))] [] G' (mg_v (.int (a_sum (fun k => if a_stp T v x k then 1 else 0) (2 ^ nv))) G') := fun q => by
      refine ih _ _ ⟨?_, rfl⟩
      rw [← mg_inc k, es, q, if_neg (show ¬ (false = true) by decide), Int32.add_zero]
    have hs := a_sb_b nv h8 v hv k hk
    have cb : ∀ a b : Bool, ((if a then (1 : Int32) else 0) = (if b then 1 else 0)) ↔ a = b := by decide
    refine mg_go [6] 80 6 ms_74 ?_
    refine ⟨Or.inr H.is, mg_cv (c71 d H h8 e) (by omega) ⟨fun h => absurd h (mg_nle (by omega) (by omega)), fun _ => ?_⟩⟩
    have hab := mg_abit v (by omega) k (by omega)
    cases hb : k.testBit v with
    | true =>
      rw [hb] at hab
      exact ⟨fun _ => nx (by unfold a_stp; rw [hb]; rfl), fun h => absurd (hab.symm.trans h) (by decide)⟩
    | false =>
      rw [hb] at hab
      refine ⟨fun h => absurd hab h, fun _ => ⟨_, H.t, Or.inr H.T.is, mg_cv (c89n d r k H.T hT (by omega) (b2 k (by omega) hk) (by omega)) (by omega) ⟨fun h1 => ?_, fun h1 => ?_⟩⟩⟩
      · refine nx ?_
        have : (a_at T k == x) = false := by
          rw [beq_eq_false_iff_ne]
          exact fun q => h1 ((cb _ _).mpr q)
        unfold a_stp
        rw [this, Bool.and_false, Bool.false_and]
      · have h1 := (cb _ _).mp h1
        have hc := c89n (K := K) (G := G') (n := a_wds nv) d r (a_sb k v true) H.T hT (by omega) (b2 _ (by omega) hs.1) (by omega)
        rw [← mg_aor v (by omega) k (by omega)] at hc
        refine ⟨_, H.t, Or.inr H.T.is, mg_cv hc (by omega) ⟨fun h2 => ?_, fun h2 => ?_⟩⟩
        · have h2 := (cb _ _).mp h2
          refine nx ?_
          unfold a_stp
          rw [h2]
          cases x <;> simp
        · refine ih _ _ ⟨?_, rfl⟩
          have : a_stp T v x k = true := by
            unfold a_stp
            rw [hb, h1, Bool.not_false, Bool.true_and, beq_self_eq_true, Bool.true_and, bne_iff_ne]
            exact fun q => h2 ((cb _ _).mpr q)
          rw [← mg_inc k, es, this, if_pos rfl]
          rfl
  · rintro L G' ⟨rfl, rfl⟩
    refine mg_go [6] 40 6 ms_74 ?_
    exact ⟨Or.inr H.is, mg_cv (c71 d H h8 e) (by omega) ⟨fun _ => ⟨Or.inl rfl, rfl, rfl, rfl⟩, fun h => absurd h (Int32.not_lt.mpr (Int32.le_refl _))⟩⟩
/-- an assignment's cost -/
def a_cst (co : Nat → Int32) (nv k : Nat) : Int32 := a_sum (fun v => (if k.testBit v then (1 : Int32) else 0) * co v) nv
theorem c75 (d k : Nat) (H : kS K s) (h8 : nv < 9) (hk : k < 256) (e : G.2.2.2.2 s 7 = .int (Int32.ofNat nv)) : mg_m K (d + 1) 75 [.ref s, .int (Int32.ofNat k)] G (mg_v (.int (a_cst (G.1 (s + 6)) nv k)) G) := by
  refine mg_me [4] 10 my_75 ms_75 (Nat.le_of_ble_eq_true rfl) ?_
  refine mg_loop nv (fun v L G' => L = [some (.ref s), some (.int (Int32.ofNat k)), some (.int (a_cst (G.1 (s + 6)) v k)), some (.int (Int32.ofNat v))] ∧ G' = G) ?_ ?_ _ _ ⟨rfl, rfl⟩
  · rintro v L G' hv ⟨rfl, rfl⟩ ih
    refine mg_go [4] 40 4 ms_75 ?_
    refine ⟨_, H.nv e, fun h => absurd h (mg_nle (by omega) (by omega)), fun _ => ⟨_, H.co, 8, _, v, H.A6, mg_ixN (by omega), by omega, ?_⟩⟩
    refine ih _ _ ⟨?_, rfl⟩
    rw [← mg_inc v]
    show (_ : mm_L) = [_, _, some (.int (a_cst (G'.1 (s + 6)) v k + (if k.testBit v then (1 : Int32) else 0) * G'.1 (s + 6) v)), _]
    rw [← mg_abit v (by omega) k hk] <;> rfl
  · rintro L G' ⟨rfl, rfl⟩
    refine mg_go [4] 40 4 ms_75 ?_
    exact ⟨_, H.nv e, fun _ => ⟨Or.inl rfl, rfl, rfl, rfl⟩, fun h => absurd h (Int32.not_lt.mpr (Int32.le_refl _))⟩
/-- the first of the cheapest models among the first n assignments -/
def a_lst (T : a_T) (co : Nat → Int32) (nv : Nat) : Nat → Option Nat
  | 0 => none
  | k + 1 => if a_at T k = true then (match a_lst T co nv k with
    | none => some k
    | some b => if a_cst co nv k < a_cst co nv b then some k else some b) else a_lst T co nv k
theorem a_lst_lt (T : a_T) (co : Nat → Int32) (nv : Nat) : ∀ n b, a_lst T co nv n = some b → b < n
  | 0, b, h => by cases h
  | n + 1, b, h => by
    unfold a_lst at h
    split at h
    · split at h
      · cases h; omega
      · rename_i c hc
        have := a_lst_lt T co nv n c hc
        split at h <;> cases h <;> omega
    · have := a_lst_lt T co nv n b h
      omega
theorem c76 (d r : Nat) (H : kS K s) (h8 : nv < 9) (e : G.2.2.2.2 s 7 = .int (Int32.ofNat nv)) {T : a_T} (hr : r < 14) (hT : cRow G (s + 2) r (a_wds nv) T) : mg_m K (d + 2) 76 [.ref s, .int (Int32.ofNat r)] G (mg_v (.int (a_oi (a_lst T (G.1 (s + 6)) nv (2 ^ nv)))) G) := by
  obtain ⟨-, b1, b2⟩ := mg_bnd nv h8
  have hn4 := (a_wds_i nv (by omega)).1
  refine mg_me [7] 10 my_76 ms_76 (Nat.le_of_ble_eq_true rfl) ?_
  refine mg_loop (2 ^ nv) (fun k L G' => (∃ c5, L = [some (.ref s), some (.int (Int32.ofNat r)), some (.int (a_oi (a_lst T (G.1 (s + 6)) nv k))), some (.int (match a_lst T (G.1 (s + 6)) nv k with
    | none => 0
    | some b => a_cst (G.1 (s + 6)) nv b)), some (.int (Int32.ofNat k)), c5]) ∧ G' = G) ?_ ?_ _ _ ⟨⟨_, rfl⟩, rfl⟩
  · rintro k L G' hk ⟨⟨c5, rfl⟩, rfl⟩ ih
    have es : a_lst T (G'.1 (s + 6)) nv (k + 1) = if a_at T k = true then (match a_lst T (G'.1 (s + 6)) nv k with
      | none => some k
      | some b => if a_cst (G'.1 (s + 6)) nv k < a_cst (G'.1 (s + 6)) nv b then some k else some b) else a_lst T (G'.1 (s + 6)) nv k := rfl
    have hlt := a_lst_lt T (G'.1 (s + 6)) nv k
    rw [es, ← mg_inc k] at ih
    refine mg_go [7] 80 7 ms_76 ?_
    refine ⟨Or.inr H.is, mg_cv (c71 d H h8 e) (by omega) ⟨fun h => absurd h (mg_nle (by omega) (by omega)), fun _ => ⟨_, H.t, Or.inr H.T.is, mg_cv (c89n d r k H.T hT (by omega) (b2 k (by omega) hk) (by omega)) (by omega) ?_⟩⟩⟩
    unfold a_atI
    cases hb : a_at T k with
    | false =>
      rw [hb, if_neg (by decide)] at ih
      exact ⟨fun _ => ih _ _ ⟨⟨_, rfl⟩, rfl⟩, fun h => absurd h (by decide)⟩
    | true =>
      rw [hb, if_pos rfl] at ih
      refine ⟨fun h => absurd rfl h, fun _ => ⟨Or.inr H.is, mg_cv (c75 d k H h8 (by omega) e) (by omega) ?_⟩⟩
      cases ha : a_lst T (G'.1 (s + 6)) nv k with
      | none =>
        rw [ha] at ih
        refine ⟨fun _ => ih _ _ ⟨⟨_, rfl⟩, rfl⟩, fun h => absurd rfl h⟩
      | some b =>
        rw [ha] at ih
        dsimp only at ih
        have hb9 := hlt b ha
        refine ⟨fun h => ?_, fun _ => ⟨fun h => ?_, fun h => ?_⟩⟩
        · exfalso
          have h : Int32.ofNat b = Int32.ofInt (-1) := h
          have h1 := congrArg Int32.toInt h
          rw [mg_toN (by omega)] at h1
          have h2 : (Int32.ofInt (-1)).toInt = -1 := by decide
          omega
        · have ih := ih [some (.ref s), some (.int (Int32.ofNat r)), some (.int (Int32.ofNat b)), some (.int (a_cst (G'.1 (s + 6)) nv b)), some (.int (Int32.ofNat k + Int32.ofInt 1)), some (.int (a_cst (G'.1 (s + 6)) nv k))] G' ⟨⟨_, by rw [if_neg (Int32.not_lt.mpr h)] <;> rfl⟩, rfl⟩
          exact ih
        · have ih := ih [some (.ref s), some (.int (Int32.ofNat r)), some (.int (Int32.ofNat k)), some (.int (a_cst (G'.1 (s + 6)) nv k)), some (.int (Int32.ofNat k + Int32.ofInt 1)), some (.int (a_cst (G'.1 (s + 6)) nv k))] G' ⟨⟨_, by rw [if_pos h] <;> rfl⟩, rfl⟩
          exact ih
  · rintro L G' ⟨⟨c5, rfl⟩, rfl⟩
    refine mg_go [7] 40 7 ms_76 ?_
    exact ⟨Or.inr H.is, mg_cv (c71 d H h8 e) (by omega) ⟨fun _ => ⟨Or.inl rfl, rfl, rfl, rfl⟩, fun h => absurd h (Int32.not_lt.mpr (Int32.le_refl _))⟩⟩
end CS
