def a_fst (P : Nat → Bool) : Nat → Nat → Option Nat
  | _, 0 => none
  | k, m + 1 => if P k = true then some k else a_fst P (k + 1) m
/-- the first k < n with P -/
def a_ff (P : Nat → Bool) (n : Nat) : Option Nat := a_fst P 0 n
def a_oi (o : Option Nat) : Int32 := match o with
  | none => Int32.ofInt (-1)
  | some k => Int32.ofNat k
theorem a_fst_some {P : Nat → Bool} : ∀ m i k, i ≤ k → k < i + m → P k = true → (∀ j, i ≤ j → j < k → P j = false) → a_fst P i m = some k
  | 0, i, k, h1, h2, _, _ => by omega
  | m + 1, i, k, h1, h2, h3, h4 => by
    unfold a_fst
    rcases Nat.lt_or_eq_of_le h1 with h | rfl
    · rw [h4 i (Nat.le_refl _) h, if_neg (by decide)]
      exact a_fst_some m (i + 1) k h (by omega) h3 (fun j a b => h4 j (by omega) b)
    · rw [if_pos h3]
theorem a_fst_none {P : Nat → Bool} : ∀ m i, (∀ j, i ≤ j → j < i + m → P j = false) → a_fst P i m = none
  | 0, i, _ => rfl
  | m + 1, i, h => by
    unfold a_fst
    rw [h i (Nat.le_refl _) (by omega), if_neg (by decide)]
    exact a_fst_none m (i + 1) (fun j a b => h j (by omega) (by omega))
theorem a_ff_some {P : Nat → Bool} {n k : Nat} (h1 : k < n) (h2 : P k = true) (h3 : ∀ j, j < k → P j = false) : a_ff P n = some k := a_fst_some n 0 k (Nat.zero_le _) (by omega) h2 (fun j _ h => h3 j h)
theorem a_ff_none {P : Nat → Bool} {n : Nat} (h : ∀ j, j < n → P j = false) : a_ff P n = none := a_fst_none n 0 (fun j _ h2 => h j (by omega))
theorem a_fst_is {P : Nat → Bool} : ∀ m i, (∃ k, i ≤ k ∧ k < i + m ∧ a_fst P i m = some k ∧ P k = true ∧ ∀ j, i ≤ j → j < k → P j = false) ∨ (a_fst P i m = none ∧ ∀ j, i ≤ j → j < i + m → P j = false)
  | 0, i => Or.inr ⟨rfl, fun j a b => by omega⟩
  | m + 1, i => by
    cases h : P i with
    | true => exact Or.inl ⟨i, Nat.le_refl _, by omega, a_fst_some _ _ _ (Nat.le_refl _) (by omega) h (fun j a b => by omega), h, fun j a b => by omega⟩
    | false =>
      have e : a_fst P i (m + 1) = a_fst P (i + 1) m := by
        conv => lhs; unfold a_fst
        rw [h, if_neg (by decide)]
      rw [e]
      rcases a_fst_is (P := P) m (i + 1) with ⟨k, h1, h2, h3, h4, h5⟩ | ⟨h1, h2⟩
      · exact Or.inl ⟨k, by omega, by omega, h3, h4, fun j a b => by
          rcases Nat.lt_or_eq_of_le a with q | rfl
          · exact h5 j q b
          · exact h⟩
      · exact Or.inr ⟨h1, fun j a b => by
          rcases Nat.lt_or_eq_of_le a with q | rfl
          · exact h2 j q (by omega)
          · exact h⟩
theorem a_ff_is (P : Nat → Bool) (n : Nat) : (∃ k, k < n ∧ a_ff P n = some k ∧ P k = true ∧ ∀ j, j < k → P j = false) ∨ (a_ff P n = none ∧ ∀ j, j < n → P j = false) := by
  rcases a_fst_is (P := P) n 0 with ⟨k, h1, h2, h3, h4, h5⟩ | ⟨h1, h2⟩
  · exact Or.inl ⟨k, by omega, h3, h4, fun j b => h5 j (Nat.zero_le _) b⟩
  · exact Or.inr ⟨h1, fun j b => h2 j (Nat.zero_le _) (by omega)⟩
theorem a_ff_c {P R : Nat → Bool} {n : Nat} (h : ∀ k, k < n → P k = R k) : a_ff P n = a_ff R n := by
  rcases a_ff_is P n with ⟨k, h1, h2, h3, h4⟩ | ⟨h1, h2⟩
  · rw [h2, a_ff_some h1 (by rw [← h k h1]; exact h3) (fun j hj => by rw [← h j (by omega)]; exact h4 j hj)]
  · rw [h1, a_ff_none (fun j hj => by rw [← h j hj]; exact h2 j hj)]
def kS (K : mg_K) (s : Nat) : Prop := K.2[s]? = some (.inr (5, [some (.ref (s + 1)), some (.ref (s + 3)), some (.ref (s + 4)), some (.ref (s + 5)), some (.ref (s + 6)), some (.ref (s + 7)), none, none])) ∧ kT K (s + 1) (s + 2) 56 ∧ K.2[s + 3]? = some (.inl (1, 12)) ∧ K.2[s + 4]? = some (.inl (1, 8)) ∧ K.2[s + 5]? = some (.inl (0, 8)) ∧ K.2[s + 6]? = some (.inl (0, 8)) ∧ K.2[s + 7]? = some (.inl (0, 8)) ∧ s + 7 < 1000000
section KS
variable {K : mg_K} {s : Nat} {G : mg_G}
theorem kS.t (h : kS K s) : mg_F K G s 5 0 (.ref (s + 1)) := mg_Fs h.1 rfl
theorem kS.fn (h : kS K s) : mg_F K G s 5 1 (.ref (s + 3)) := mg_Fs h.1 rfl
theorem kS.vn (h : kS K s) : mg_F K G s 5 2 (.ref (s + 4)) := mg_Fs h.1 rfl
theorem kS.od (h : kS K s) : mg_F K G s 5 3 (.ref (s + 5)) := mg_Fs h.1 rfl
theorem kS.co (h : kS K s) : mg_F K G s 5 4 (.ref (s + 6)) := mg_Fs h.1 rfl
theorem kS.pe (h : kS K s) : mg_F K G s 5 5 (.ref (s + 7)) := mg_Fs h.1 rfl
theorem kS.nf (h : kS K s) {v : Value} (e : G.2.2.2.2 s 6 = v) : mg_F K G s 5 6 v := mg_Fe e h.1 rfl
theorem kS.nv (h : kS K s) {v : Value} (e : G.2.2.2.2 s 7 = v) : mg_F K G s 5 7 v := mg_Fe e h.1 rfl
theorem kS.T (h : kS K s) : kT K (s + 1) (s + 2) 56 := h.2.1
theorem kS.A3 (h : kS K s) : mg_A K G (s + 3) 1 12 (.inr (.inl (G.2.1 (s + 3)))) := mg_Al h.2.2.1 (by have := h.2.2.2.2.2.2.2; omega)
theorem kS.A4 (h : kS K s) : mg_A K G (s + 4) 1 8 (.inr (.inl (G.2.1 (s + 4)))) := mg_Al h.2.2.2.1 (by have := h.2.2.2.2.2.2.2; omega)
theorem kS.A5 (h : kS K s) : mg_A K G (s + 5) 0 8 (.inl (G.1 (s + 5))) := mg_Ai h.2.2.2.2.1 (by have := h.2.2.2.2.2.2.2; omega)
theorem kS.A6 (h : kS K s) : mg_A K G (s + 6) 0 8 (.inl (G.1 (s + 6))) := mg_Ai h.2.2.2.2.2.1 (by have := h.2.2.2.2.2.2.2; omega)
theorem kS.A7 (h : kS K s) : mg_A K G (s + 7) 0 8 (.inl (G.1 (s + 7))) := mg_Ai h.2.2.2.2.2.2.1 h.2.2.2.2.2.2.2
theorem kS.s3 (h : kS K s) : K.2[s + 3]? = some (.inl (1, 12)) := h.2.2.1
theorem kS.s4 (h : kS K s) : K.2[s + 4]? = some (.inl (1, 8)) := h.2.2.2.1
theorem kS.s5 (h : kS K s) : K.2[s + 5]? = some (.inl (0, 8)) := h.2.2.2.2.1
theorem kS.s6 (h : kS K s) : K.2[s + 6]? = some (.inl (0, 8)) := h.2.2.2.2.2.1
theorem kS.s7 (h : kS K s) : K.2[s + 7]? = some (.inl (0, 8)) := h.2.2.2.2.2.2.1
theorem kS.is (h : kS K s) {r : List Value} : mg_isr K 5 (.ref s :: r) := ⟨_, h.1⟩
end KS
theorem mg_bnd : ∀ nv, nv < 9 → (1 : Int32) <<< (Int32.ofNat nv &&& 31) = Int32.ofNat (2 ^ nv) ∧ 2 ^ nv ≤ 256 ∧ ∀ k, k < 256 → k < 2 ^ nv → k / 64 < a_wds nv := by decide +kernel
section CS
variable {K : mg_K} {s : Nat} {G : mg_G} {nv nf n : Nat}
theorem c71 (d : Nat) (H : kS K s) (h8 : nv < 9) (e : G.2.2.2.2 s 7 = .int (Int32.ofNat nv)) : mg_m K (d + 1) 71 [.ref s] G (mg_v (.int (Int32.ofNat (2 ^ nv))) G) := by
  refine mg_me [] 10 my_71 ms_71 (Nat.le_of_ble_eq_true rfl) ?_
  refine ⟨_, H.nv e, Or.inl rfl, ?_, rfl, rfl⟩
  rw [← (mg_bnd nv h8).1]
  rfl
theorem c89n (d r k : Nat) {a b N : Nat} {T : a_T} (H : kT K a b N) (hT : cRow G b r n T) (hk : k < 256) (hkn : k / 64 < n) (hr : 4 * r + n ≤ N) : mg_m K (d + 1) 89 [.ref a, .int (Int32.ofNat r), .int (Int32.ofNat k)] G (mg_v (.int (a_atI T k)) G) := by
  have := c89 (K := K) (G := G) d r k H hk (by omega)
  rw [hT _ hkn] at this
  exact this
theorem c70 (d : Nat) (H : kS K s) (h8 : nv < 9) (e : G.2.2.2.2 s 7 = .int (Int32.ofNat nv)) (x : Int32) {lev : Nat} (hl : lev < nv) (he : G.1 (s + 5) lev = x) (hno : ∀ j, j < lev → G.1 (s + 5) j ≠ x) : mg_m K (d + 1) 70 [.ref s, .int x] G (mg_v (.int (Int32.ofNat lev)) G) := by
  refine mg_me [2] 10 my_70 ms_70 (Nat.le_of_ble_eq_true rfl) ?_
  refine mg_loop lev (fun k L G' => L = [some (.ref s), some (.int x), some (.int (Int32.ofNat k))] ∧ G' = G) ?_ ?_ _ _ ⟨rfl, rfl⟩
  · rintro k L G' hk ⟨rfl, rfl⟩ ih
    refine mg_go [2] 40 2 ms_70 ?_
    refine ⟨_, H.nv e, fun h => absurd h (mg_nle (by omega) (by omega)), fun _ => ⟨_, H.od, 8, _, k, H.A5, mg_ixN (by omega), by omega, fun _ => ih _ _ ⟨by rw [← mg_inc k] <;> rfl, rfl⟩, fun h => absurd h (hno k hk)⟩⟩
  · rintro L G' ⟨rfl, rfl⟩
    refine mg_go [2] 40 2 ms_70 ?_
    exact ⟨_, H.nv e, fun h => absurd h (mg_nle (by omega) (by omega)), fun _ => ⟨_, H.od, 8, _, lev, H.A5, mg_ixN (by omega), by omega, fun h => absurd he h, fun _ => ⟨Or.inl rfl, rfl, rfl, rfl⟩⟩⟩
theorem c69 (d : Nat) (H : kS K s) (h8 : nv < 9) (e : G.2.2.2.2 s 7 = .int (Int32.ofNat nv)) (x : Int64) : mg_m K (d + 1) 69 [.ref s, .long x] G (mg_v (.int (a_oi (a_ff (fun v => decide (G.2.1 (s + 4) v = x)) nv))) G) := by
  refine mg_me [2] 10 my_69 ms_69 (Nat.le_of_ble_eq_true rfl) ?_
  refine mg_loop nv (fun k L G' => L = [some (.ref s), some (.long x), none, some (.int (Int32.ofNat k))] ∧ G' = G ∧ ∀ j, j < k → G.2.1 (s + 4) j ≠ x) ?_ ?_ _ _ ⟨rfl, rfl, fun j h => absurd h (Nat.not_lt_zero _)⟩
  · rintro k L G' hk ⟨rfl, rfl, hI⟩ ih
    refine mg_go [2] 40 2 ms_69 ?_
    refine ⟨_, H.nv e, fun h => absurd h (mg_nle (by omega) (by omega)), fun _ => ⟨_, H.vn, 8, _, k, H.A4, mg_ixN (by omega), by omega, fun h => ?_, fun h => ?_⟩⟩
    · refine ih _ _ ⟨by rw [← mg_inc k], rfl, fun j hj => ?_⟩
      rcases Nat.lt_or_eq_of_le (Nat.le_of_lt_succ hj) with h9 | rfl
      · exact hI j h9
      · exact fun q => h ((lg_cmp_eq _ _).mpr q)
    · refine ⟨Or.inl rfl, ?_, rfl, rfl⟩
      rw [a_ff_some hk (decide_eq_true ((lg_cmp_eq _ _).mp h)) (fun j hj => decide_eq_false (hI j hj))]
      rfl
  · rintro L G' ⟨rfl, rfl, hI⟩
    refine mg_go [2] 40 2 ms_69 ?_
    refine ⟨_, H.nv e, fun _ => ⟨Or.inl rfl, ?_, rfl, rfl⟩, fun h => absurd h (Int32.not_lt.mpr (Int32.le_refl _))⟩
    rw [a_ff_none (fun j hj => decide_eq_false (hI j hj))]
    rfl
theorem c68 (d : Nat) (H : kS K s) (h12 : nf ≤ 12) (e : G.2.2.2.2 s 6 = .int (Int32.ofNat nf)) (x : Int64) : mg_m K (d + 1) 68 [.ref s, .long x] G (mg_v (.int (a_oi (a_ff (fun v => decide (x ≠ 0 ∧ G.2.1 (s + 3) v = x)) nf))) G) := by
  refine mg_me [2] 10 my_68 ms_68 (Nat.le_of_ble_eq_true rfl) ?_
  refine mg_loop nf (fun k L G' => L = [some (.ref s), some (.long x), none, some (.int (Int32.ofNat k))] ∧ G' = G ∧ ∀ j, j < k → ¬ (x ≠ 0 ∧ G.2.1 (s + 3) j = x)) ?_ ?_ _ _ ⟨rfl, rfl, fun j h => absurd h (Nat.not_lt_zero _)⟩
  · rintro k L G' hk ⟨rfl, rfl, hI⟩ ih
    have step : ¬ (x ≠ 0 ∧ G'.2.1 (s + 3) k = x) → ∀ j, j < k + 1 → ¬ (x ≠ 0 ∧ G'.2.1 (s + 3) j = x) := fun h9 j hj => by
      rcases Nat.lt_or_eq_of_le (Nat.le_of_lt_succ hj) with h9 | rfl
      · exact hI j h9
      · exact h9
    refine mg_go [2] 40 2 ms_68 ?_
    refine ⟨_, H.nf e, fun h => absurd h (mg_nle (by omega) (by omega)), fun _ => ⟨fun h0 => ?_, fun h0 => ?_⟩⟩
    · exact ih _ _ ⟨by rw [← mg_inc k], rfl, step (fun q => q.1 ((lg_cmp_eq _ _).mp h0))⟩
    · refine ⟨_, H.fn, 12, _, k, H.A3, mg_ixN (by omega), by omega, fun h => ?_, fun h => ?_⟩
      · exact ih _ _ ⟨by rw [← mg_inc k], rfl, step (fun q => h ((lg_cmp_eq _ _).mpr q.2))⟩
      · refine ⟨Or.inl rfl, ?_, rfl, rfl⟩
        rw [a_ff_some hk (decide_eq_true ⟨fun q => h0 ((lg_cmp_eq _ _).mpr q), (lg_cmp_eq _ _).mp h⟩) (fun j hj => decide_eq_false (hI j hj))]
        rfl
  · rintro L G' ⟨rfl, rfl, hI⟩
    refine mg_go [2] 40 2 ms_68 ?_
    refine ⟨_, H.nf e, fun _ => ⟨Or.inl rfl, ?_, rfl, rfl⟩, fun h => absurd h (Int32.not_lt.mpr (Int32.le_refl _))⟩
    rw [a_ff_none (fun j hj => decide_eq_false (hI j hj))]
    rfl
theorem c72 (d r : Nat) (H : kS K s) (h8 : nv < 9) (e : G.2.2.2.2 s 7 = .int (Int32.ofNat nv)) {T : a_T} (hr : r < 14) (hT : cRow G (s + 2) r (a_wds nv) T) : mg_m K (d + 2) 72 [.ref s, .int (Int32.ofNat r)] G (mg_v (.int (a_sum (a_atI T) (2 ^ nv))) G) := by
  obtain ⟨-, b1, b2⟩ := mg_bnd nv h8
  have hn4 := (a_wds_i nv (by omega)).1
  refine mg_me [4] 10 my_72 ms_72 (Nat.le_of_ble_eq_true rfl) ?_
  refine mg_loop (2 ^ nv) (fun k L G' => L = [some (.ref s), some (.int (Int32.ofNat r)), some (.int (a_sum (a_atI T) k)), some (.int (Int32.ofNat k))] ∧ G' = G) ?_ ?_ _ _ ⟨rfl, rfl⟩
  · rintro k L G' hk ⟨rfl, rfl⟩ ih
    refine mg_go [4] 40 4 ms_72 ?_
    refine ⟨Or.inr H.is, mg_cv (c71 d H h8 e) (by omega) ⟨fun h => absurd h (mg_nle (by omega) (by omega)), fun _ => ⟨_, H.t, Or.inr H.T.is, mg_cv (c89n d r k H.T hT (by omega) (b2 k (by omega) hk) (by omega)) (by omega) ?_⟩⟩⟩
    exact ih _ _ ⟨by rw [← mg_inc k] <;> rfl, rfl⟩
  · rintro L G' ⟨rfl, rfl⟩
    refine mg_go [4] 40 4 ms_72 ?_
    exact ⟨Or.inr H.is, mg_cv (c71 d H h8 e) (by omega) ⟨fun _ => ⟨Or.inl rfl, rfl, rfl, rfl⟩, fun h => absurd h (Int32.not_lt.mpr (Int32.le_refl _))⟩⟩
end CS
