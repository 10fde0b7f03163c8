theorem mg_loop {K : mg_K} {c : mm_Code} {d pc : Nat} {Q : mg_Q} (n : Nat) (I : Nat → mm_L → mg_G → Prop)
    (step : ∀ k L G, k < n → I k L G → (∀ L' G', I (k + 1) L' G' → mg_wp K c d pc L' [] G' Q) → mg_wp K c d pc L [] G Q)
    (fin : ∀ L G, I n L G → mg_wp K c d pc L [] G Q) : ∀ L G, I 0 L G → mg_wp K c d pc L [] G Q := by
  have key : ∀ m k, k + m = n → ∀ L G, I k L G → mg_wp K c d pc L [] G Q := by
    intro m
    induction m with
    | zero =>
      intro k h L G hI
      have e : k = n := by omega
      subst e
      exact fin L G hI
    | succ m ih => exact fun k h L G hI => step k L G (by omega) hI (fun L' G' h' => ih (k + 1) (by omega) L' G' h')
  exact fun L G h => key n 0 (Nat.zero_add n) L G h
/-- k < n, as ints: 'not n ≤ k', and back -/
theorem mg_nle {a b : Nat} (h : a < b) (hb : b < 2147483648) : ¬ Int32.ofNat b ≤ Int32.ofNat a := fun q => by
  have := (mg_leN hb (by omega)).mp q
  omega
theorem mg_nlt {a b : Nat} (h : a ≤ b) (hb : b < 2147483648) : ¬ Int32.ofNat b < Int32.ofNat a := fun q => by
  have := (mg_ltN hb (by omega)).mp q
  omega
theorem mg_4rw (r w : Nat) : Int32.ofNat r * Int32.ofInt 4 + Int32.ofNat w = Int32.ofNat (4 * r + w) := by
  rw [Int32.ofNat_add, Nat.mul_comm, Int32.ofNat_mul]
  rfl
def kT (K : mg_K) (a b N : Nat) : Prop := K.2[a]? = some (.inr (6, [some (.ref b), none])) ∧ K.2[b]? = some (.inl (1, N)) ∧ b < 1000000 ∧ N < 1000000
theorem kT.b {K : mg_K} {a b N : Nat} (h : kT K a b N) {G : mg_G} : mg_F K G a 6 0 (.ref b) := mg_Fs h.1 rfl
theorem kT.w {K : mg_K} {a b N : Nat} (h : kT K a b N) {G : mg_G} {v : Value} (e : G.2.2.2.2 a 1 = v) : mg_F K G a 6 1 v := mg_Fe e h.1 rfl
theorem kT.r {K : mg_K} {a b N : Nat} (h : kT K a b N) {G : mg_G} : mg_A K G b 1 N (.inr (.inl (G.2.1 b))) := mg_Al h.2.1 h.2.2.1
/-- row r of bits b becomes g, n words -/
def a_rw (f : Nat → Int64) (r n : Nat) (g : Nat → Int64) : Nat → Int64 := fun i => if 4 * r ≤ i ∧ i < 4 * r + n then g (i - 4 * r) else f i
def cW (G : mg_G) (b r n : Nat) (g : Nat → Int64) : mg_G := (G.1, mg_u G.2.1 b (a_rw (G.2.1 b) r n g), G.2.2)
theorem a_rw_0 (f : Nat → Int64) (r : Nat) (g : Nat → Int64) : a_rw f r 0 g = f := by
  funext i
  unfold a_rw
  rw [if_neg (by omega)]
theorem cW_0 (G : mg_G) (b r : Nat) (g : Nat → Int64) : cW G b r 0 g = G := by
  unfold cW
  rw [a_rw_0, mg_u_id]
theorem a_rw_s (f : Nat → Int64) (r n : Nat) (g : Nat → Int64) : mg_u (a_rw f r n g) (4 * r + n) (g n) = a_rw f r (n + 1) g := by
  funext i
  by_cases hi : i = 4 * r + n
  · subst hi
    rw [mg_u_eq]
    unfold a_rw
    rw [if_pos ⟨by omega, by omega⟩, show 4 * r + n - 4 * r = n by omega]
  · rw [mg_u_ne _ _ hi]
    unfold a_rw
    by_cases h2 : 4 * r ≤ i ∧ i < 4 * r + n
    · rw [if_pos h2, if_pos ⟨h2.1, by omega⟩]
    · rw [if_neg h2, if_neg (by omega)]
theorem cW_s (G : mg_G) (b r n : Nat) (g : Nat → Int64) : mg_sJ (cW G b r n g) b (4 * r + n) (g n) = cW G b r (n + 1) g := by
  show (G.1, mg_u2 (mg_u G.2.1 b (a_rw (G.2.1 b) r n g)) b (4 * r + n) (g n), G.2.2) = _
  rw [mg_u2_u, a_rw_s]
  rfl
/-- what is read while a row is written -/
theorem cW_at (G : mg_G) (b r n : Nat) (g : Nat → Int64) (i : Nat) (h : ¬ (4 * r ≤ i ∧ i < 4 * r + n)) : (cW G b r n g).2.1 b i = G.2.1 b i := by
  show mg_u G.2.1 b (a_rw (G.2.1 b) r n g) b i = _
  rw [mg_u_eq]
  unfold a_rw
  rw [if_neg h]
theorem cW_ne (G : mg_G) (b r n : Nat) (g : Nat → Int64) (c : Nat) (h : c ≠ b) : (cW G b r n g).2.1 c = G.2.1 c := mg_u_ne _ _ h
theorem cW_in (G : mg_G) (b r n : Nat) (g : Nat → Int64) (w : Nat) (h : w < n) : (cW G b r n g).2.1 b (4 * r + w) = g w := by
  show mg_u G.2.1 b (a_rw (G.2.1 b) r n g) b (4 * r + w) = _
  rw [mg_u_eq]
  unfold a_rw
  rw [if_pos ⟨by omega, by omega⟩, show 4 * r + w - 4 * r = w by omega]
theorem cW_g (G : mg_G) (b r n : Nat) (g g' : Nat → Int64) (h : ∀ w, w < n → g w = g' w) : cW G b r n g = cW G b r n g' := by
  have e : a_rw (G.2.1 b) r n g = a_rw (G.2.1 b) r n g' := by
    funext i
    unfold a_rw
    by_cases h2 : 4 * r ≤ i ∧ i < 4 * r + n
    · rw [if_pos h2, if_pos h2, h _ (by omega)]
    · rw [if_neg h2, if_neg h2]
  unfold cW
  rw [e]
def a_comb (op : Int32) (x y : Int64) : Int64 := if op = 0 then x &&& y else if op = 1 then x ||| y else if op = 2 then x ^^^ y else if op = 3 then (x ^^^ (-1 : Int64)) ||| y else if op = 4 then (x ^^^ y) ^^^ (-1 : Int64) else x &&& (y ^^^ (-1 : Int64))
section CT
variable {K : mg_K} {a b N : Nat} {G : mg_G} {n : Nat}
theorem c79 (d r : Nat) (H : kT K a b N) (x : Int32) (hw : G.2.2.2.2 a 1 = .int (Int32.ofNat n)) (hr : 4 * r + n ≤ N) : mg_m K (d + 1) 79 [.ref a, .int (Int32.ofNat r), .int x] G (mg_n (cW G b r n (fun _ => if x = 0 then 0 else -1))) := by
  have hN := H.2.2.2
  refine mg_me [7] 20 my_79 ms_79 (Nat.le_of_ble_eq_true rfl) ?_
  refine mg_loop n (fun k L G' => L = [some (.ref a), some (.int (Int32.ofNat r)), some (.int x), some (.int (Int32.ofNat r * Int32.ofInt 4)), some (.int (Int32.ofNat k))] ∧ G' = cW G b r k (fun _ => if x = 0 then 0 else -1)) ?_ ?_ _ _ ⟨rfl, (cW_0 _ _ _ _).symm⟩
  · rintro k L G' hk ⟨rfl, rfl⟩ ih
    refine mg_go [7] 60 7 ms_79 ?_
    refine ⟨_, H.w hw, fun h => absurd h (mg_nle hk (by omega)), fun _ => ⟨_, H.b, fun h => ?_, fun h => ?_⟩⟩
    · refine ⟨N, 4 * r + k, H.2.1, mg_ixE (mg_4rw r k) (by omega), by omega, ih _ _ ⟨by rw [← mg_inc k], ?_⟩⟩
      rw [← cW_s, if_pos h]
      rfl
    · refine ⟨N, 4 * r + k, H.2.1, mg_ixE (mg_4rw r k) (by omega), by omega, ih _ _ ⟨by rw [← mg_inc k], ?_⟩⟩
      rw [← cW_s, if_neg h]
  · rintro L G' ⟨rfl, rfl⟩
    refine mg_go [7] 60 7 ms_79 ?_
    exact ⟨_, H.w hw, fun _ => ⟨rfl, rfl, rfl⟩, fun h => absurd h (Int32.not_lt.mpr (Int32.le_refl _))⟩
theorem c81 (d r r2 a2 b2 N2 : Nat) (H : kT K a b N) (H2 : kT K a2 b2 N2) (hw : G.2.2.2.2 a 1 = .int (Int32.ofNat n)) (hn : n ≤ 4) (hr : 4 * r + n ≤ N) (hr2 : 4 * r2 + n ≤ N2) : mg_m K (d + 1) 81 [.ref a, .int (Int32.ofNat r), .ref a2, .int (Int32.ofNat r2)] G (mg_n (cW G b r n (fun w => G.2.1 b2 (4 * r2 + w)))) := by
  have hN := H.2.2.2
  have hN2 := H2.2.2.2
  refine mg_me [13] 20 my_81 ms_81 (Nat.le_of_ble_eq_true rfl) ?_
  refine mg_loop n (fun k L G' => L = [some (.ref a), some (.int (Int32.ofNat r)), some (.ref a2), some (.int (Int32.ofNat r2)), some (.int (Int32.ofNat r * Int32.ofInt 4)), some (.int (Int32.ofNat r2 * Int32.ofInt 4)), some (.int (Int32.ofNat k))] ∧ G' = cW G b r k (fun w => G.2.1 b2 (4 * r2 + w))) ?_ ?_ _ _ ⟨rfl, (cW_0 _ _ _ _).symm⟩
  · rintro k L G' hk ⟨rfl, rfl⟩ ih
    refine mg_go [13] 60 13 ms_81 ?_
    refine ⟨_, H.w hw, fun h => absurd h (mg_nle hk (by omega)), fun _ => ⟨_, H.b, _, H2.b, N2, _, 4 * r2 + k, H2.r, mg_ixE (mg_4rw r2 k) (by omega), by omega, ?_⟩⟩
    refine ⟨N, 4 * r + k, H.2.1, mg_ixE (mg_4rw r k) (by omega), by omega, ih _ _ ⟨by rw [← mg_inc k], ?_⟩⟩
    rw [← cW_s]
    have e : (cW G b r k (fun w => G.2.1 b2 (4 * r2 + w))).2.1 b2 (4 * r2 + k) = G.2.1 b2 (4 * r2 + k) := by
      by_cases hb : b2 = b
      · subst hb
        exact cW_at _ _ _ _ _ _ (by omega)
      · rw [cW_ne _ _ _ _ _ _ hb]
    exact congrArg (mg_sJ _ b (4 * r + k)) e
  · rintro L G' ⟨rfl, rfl⟩
    refine mg_go [13] 60 13 ms_81 ?_
    exact ⟨_, H.w hw, fun _ => ⟨rfl, rfl, rfl⟩, fun h => absurd h (Int32.not_lt.mpr (Int32.le_refl _))⟩
theorem mg_op {op : Int32} {k : Int} (h : op.toInt = k) (hk : (Int32.ofInt k).toInt = k) : op = Int32.ofInt k := Int32.toInt_inj.mp (h.trans hk.symm)
theorem c83 (d : Nat) (op : Int32) (x y : Int64) : mg_m K (d + 1) 83 [.int op, .long x, .long y] G (mg_v (.long (a_comb op x y)) G) := by
  refine mg_me [] 20 my_83 ms_83 (Nat.le_of_ble_eq_true rfl) ?_
  refine ⟨by decide, fun h => ?_, fun h => ?_, fun h => ?_, fun h => ?_, fun h => ?_, fun h => ?_, trivial⟩
  · refine ⟨?_, rfl, rfl⟩
    unfold a_comb
    have ne : ∀ k : Int, 0 ≤ k → k ≤ 4 → ¬ op.toInt = k := fun k h1 h2 h3 => by omega
    rw [if_neg (fun e => ne 0 (by decide) (by decide) (by rw [e]; rfl)), if_neg (fun e => ne 1 (by decide) (by decide) (by rw [e]; rfl)), if_neg (fun e => ne 2 (by decide) (by decide) (by rw [e]; rfl)), if_neg (fun e => ne 3 (by decide) (by decide) (by rw [e]; rfl)), if_neg (fun e => ne 4 (by decide) (by decide) (by rw [e]; rfl))]
  · have e := mg_op h (by decide)
    subst e
    exact ⟨rfl, rfl, rfl⟩
  · have e := mg_op h (by decide)
    subst e
    exact ⟨rfl, rfl, rfl⟩
  · have e := mg_op h (by decide)
    subst e
    exact ⟨rfl, rfl, rfl⟩
  · have e := mg_op h (by decide)
    subst e
    exact ⟨rfl, rfl, rfl⟩
  · have e := mg_op h (by decide)
    subst e
    exact ⟨rfl, rfl, rfl⟩
theorem c82 (d r r1 r2 : Nat) (H : kT K a b N) (op : Int32) (hw : G.2.2.2.2 a 1 = .int (Int32.ofNat n)) (hn : n ≤ 4) (hr : 4 * r + n ≤ N) (h1 : 4 * r1 + n ≤ N) (h2 : 4 * r2 + n ≤ N) : mg_m K (d + 2) 82 [.ref a, .int op, .int (Int32.ofNat r), .int (Int32.ofNat r1), .int (Int32.ofNat r2)] G (mg_n (cW G b r n (fun w => a_comb op (G.2.1 b (4 * r1 + w)) (G.2.1 b (4 * r2 + w))))) := by
  have hN := H.2.2.2
  refine mg_me [8] 20 my_82 ms_82 (Nat.le_of_ble_eq_true rfl) ?_
  refine mg_loop n (fun k L G' => (∃ e1 e2, L = [some (.ref a), some (.int op), some (.int (Int32.ofNat r)), some (.int (Int32.ofNat r1)), some (.int (Int32.ofNat r2)), some (.int (Int32.ofNat r * Int32.ofInt 4)), some (.int (Int32.ofNat k)), e1, none, e2, none]) ∧ G' = cW G b r k (fun w => a_comb op (G.2.1 b (4 * r1 + w)) (G.2.1 b (4 * r2 + w)))) ?_ ?_ _ _ ⟨⟨none, none, rfl⟩, (cW_0 _ _ _ _).symm⟩
  · rintro k L G' hk ⟨⟨e1, e2, rfl⟩, rfl⟩ ih
    refine mg_go [8] 60 8 ms_82 ?_
    refine ⟨_, H.w hw, fun h => absurd h (mg_nle hk (by omega)), fun _ => ⟨_, H.b, N, _, 4 * r1 + k, H.r, mg_ixE (mg_4rw r1 k) (by omega), by omega, ?_⟩⟩
    refine ⟨_, H.b, N, _, 4 * r2 + k, H.r, mg_ixE (mg_4rw r2 k) (by omega), by omega, ?_⟩
    refine ⟨_, H.b, Or.inl rfl, mg_cv (c83 d op _ _) (by omega) ?_⟩
    refine ⟨N, 4 * r + k, H.2.1, mg_ixE (mg_4rw r k) (by omega), by omega, ih _ _ ⟨⟨_, _, by rw [← mg_inc k]⟩, ?_⟩⟩
    rw [← cW_s]
    have e : ∀ r9, (cW G b r k (fun w => a_comb op (G.2.1 b (4 * r1 + w)) (G.2.1 b (4 * r2 + w)))).2.1 b (4 * r9 + k) = G.2.1 b (4 * r9 + k) := fun r9 => cW_at _ _ _ _ _ _ (by omega)
    rw [e r1, e r2]
  · rintro L G' ⟨⟨e1, e2, rfl⟩, rfl⟩
    refine mg_go [8] 60 8 ms_82 ?_
    exact ⟨_, H.w hw, fun _ => ⟨rfl, rfl, rfl⟩, fun h => absurd h (Int32.not_lt.mpr (Int32.le_refl _))⟩
theorem c84 (d r r1 : Nat) (H : kT K a b N) (hw : G.2.2.2.2 a 1 = .int (Int32.ofNat n)) (hn : n ≤ 4) (hr : 4 * r + n ≤ N) (h1 : 4 * r1 + n ≤ N) : mg_m K (d + 1) 84 [.ref a, .int (Int32.ofNat r), .int (Int32.ofNat r1)] G (mg_n (cW G b r n (fun w => G.2.1 b (4 * r1 + w) ^^^ (-1 : Int64)))) := by
  have hN := H.2.2.2
  refine mg_me [2] 20 my_84 ms_84 (Nat.le_of_ble_eq_true rfl) ?_
  refine mg_loop n (fun k L G' => L = [some (.ref a), some (.int (Int32.ofNat r)), some (.int (Int32.ofNat r1)), some (.int (Int32.ofNat k))] ∧ G' = cW G b r k (fun w => G.2.1 b (4 * r1 + w) ^^^ (-1 : Int64))) ?_ ?_ _ _ ⟨rfl, (cW_0 _ _ _ _).symm⟩
  · rintro k L G' hk ⟨rfl, rfl⟩ ih
    refine mg_go [2] 60 2 ms_84 ?_
    refine ⟨_, H.w hw, fun h => absurd h (mg_nle hk (by omega)), fun _ => ⟨_, H.b, _, H.b, N, _, 4 * r1 + k, H.r, mg_ixE (mg_4rw r1 k) (by omega), by omega, ?_⟩⟩
    refine ⟨N, 4 * r + k, H.2.1, mg_ixE (mg_4rw r k) (by omega), by omega, ih _ _ ⟨by rw [← mg_inc k], ?_⟩⟩
    rw [← cW_s]
    have e : (cW G b r k (fun w => G.2.1 b (4 * r1 + w) ^^^ (-1 : Int64))).2.1 b (4 * r1 + k) = G.2.1 b (4 * r1 + k) := cW_at _ _ _ _ _ _ (by omega)
    exact congrArg (fun z => mg_sJ _ b (4 * r + k) (z ^^^ (-1 : Int64))) e
  · rintro L G' ⟨rfl, rfl⟩
    refine mg_go [2] 60 2 ms_84 ?_
    exact ⟨_, H.w hw, fun _ => ⟨rfl, rfl, rfl⟩, fun h => absurd h (Int32.not_lt.mpr (Int32.le_refl _))⟩
theorem c85 (d r r1 r2 r3 : Nat) (H : kT K a b N) (hw : G.2.2.2.2 a 1 = .int (Int32.ofNat n)) (hn : n ≤ 4) (hr : 4 * r + n ≤ N) (h1 : 4 * r1 + n ≤ N) (h2 : 4 * r2 + n ≤ N) (h3 : 4 * r3 + n ≤ N) : mg_m K (d + 1) 85 [.ref a, .int (Int32.ofNat r), .int (Int32.ofNat r1), .int (Int32.ofNat r2), .int (Int32.ofNat r3)] G (mg_n (cW G b r n (fun w => (G.2.1 b (4 * r1 + w) &&& G.2.1 b (4 * r2 + w)) ||| ((G.2.1 b (4 * r1 + w) ^^^ (-1 : Int64)) &&& G.2.1 b (4 * r3 + w))))) := by
  have hN := H.2.2.2
  refine mg_me [3] 20 my_85 ms_85 (Nat.le_of_ble_eq_true rfl) ?_
  refine mg_loop n (fun k L G' => (∃ e1 e2 e3, L = [some (.ref a), some (.int (Int32.ofNat r)), some (.int (Int32.ofNat r1)), some (.int (Int32.ofNat r2)), some (.int (Int32.ofNat r3)), some (.int (Int32.ofNat k)), e1, none, e2, none, e3, none]) ∧ G' = cW G b r k (fun w => (G.2.1 b (4 * r1 + w) &&& G.2.1 b (4 * r2 + w)) ||| ((G.2.1 b (4 * r1 + w) ^^^ (-1 : Int64)) &&& G.2.1 b (4 * r3 + w)))) ?_ ?_ _ _ ⟨⟨none, none, none, rfl⟩, (cW_0 _ _ _ _).symm⟩
  · rintro k L G' hk ⟨⟨e1, e2, e3, rfl⟩, rfl⟩ ih
    refine mg_go [3] 80 3 ms_85 ?_
    refine ⟨_, H.w hw, fun h => absurd h (mg_nle hk (by omega)), fun _ => ⟨_, H.b, N, _, 4 * r1 + k, H.r, mg_ixE (mg_4rw r1 k) (by omega), by omega, ?_⟩⟩
    refine ⟨_, H.b, N, _, 4 * r2 + k, H.r, mg_ixE (mg_4rw r2 k) (by omega), by omega, ?_⟩
    refine ⟨_, H.b, N, _, 4 * r3 + k, H.r, mg_ixE (mg_4rw r3 k) (by omega), by omega, _, H.b, ?_⟩
    refine ⟨N, 4 * r + k, H.2.1, mg_ixE (mg_4rw r k) (by omega), by omega, ih _ _ ⟨⟨_, _, _, by rw [← mg_inc k]⟩, ?_⟩⟩
    rw [← cW_s]
    have e : ∀ r9, (cW G b r k (fun w => (G.2.1 b (4 * r1 + w) &&& G.2.1 b (4 * r2 + w)) ||| ((G.2.1 b (4 * r1 + w) ^^^ (-1 : Int64)) &&& G.2.1 b (4 * r3 + w)))).2.1 b (4 * r9 + k) = G.2.1 b (4 * r9 + k) := fun r9 => cW_at _ _ _ _ _ _ (by omega)
    rw [e r1, e r2, e r3]
  · rintro L G' ⟨⟨e1, e2, e3, rfl⟩, rfl⟩
    refine mg_go [3] 60 3 ms_85 ?_
    exact ⟨_, H.w hw, fun _ => ⟨rfl, rfl, rfl⟩, fun h => absurd h (Int32.not_lt.mpr (Int32.le_refl _))⟩
theorem c88 (d r r1 : Nat) (H : kT K a b N) (hw : G.2.2.2.2 a 1 = .int (Int32.ofNat n)) (h1 : 4 * r + n ≤ N) (h2 : 4 * r1 + n ≤ N) : mg_m K (d + 1) 88 [.ref a, .int (Int32.ofNat r), .int (Int32.ofNat r1)] G (fun o k G' => k = 0 ∧ G' = G ∧ ((o = .inl (some (.int 1)) ∧ ∀ w, w < n → G.2.1 b (4 * r + w) = G.2.1 b (4 * r1 + w)) ∨ (o = .inl (some (.int 0)) ∧ ∃ w, w < n ∧ G.2.1 b (4 * r + w) ≠ G.2.1 b (4 * r1 + w)))) := by
  have hN := H.2.2.2
  refine mg_me [2] 20 my_88 ms_88 (Nat.le_of_ble_eq_true rfl) ?_
  refine mg_loop n (fun k L G' => L = [some (.ref a), some (.int (Int32.ofNat r)), some (.int (Int32.ofNat r1)), some (.int (Int32.ofNat k))] ∧ G' = G ∧ ∀ w, w < k → G.2.1 b (4 * r + w) = G.2.1 b (4 * r1 + w)) ?_ ?_ _ _ ⟨rfl, rfl, fun w h => absurd h (Nat.not_lt_zero _)⟩
  · rintro k L G' hk ⟨rfl, rfl, hI⟩ ih
    refine mg_go [2] 60 2 ms_88 ?_
    refine ⟨_, H.w hw, fun h => absurd h (mg_nle hk (by omega)), fun _ => ⟨_, H.b, N, _, 4 * r + k, H.r, mg_ixE (mg_4rw r k) (by omega), by omega, ?_⟩⟩
    refine ⟨_, H.b, N, _, 4 * r1 + k, H.r, mg_ixE (mg_4rw r1 k) (by omega), by omega, fun h => ?_, fun h => ?_⟩
    · refine ih _ _ ⟨by rw [← mg_inc k], rfl, fun w hw9 => ?_⟩
      rcases Nat.lt_or_eq_of_le (Nat.le_of_lt_succ hw9) with h9 | rfl
      · exact hI w h9
      · exact (lg_cmp_eq _ _).mp h
    · exact ⟨Or.inr rfl, rfl, rfl, Or.inr ⟨rfl, k, hk, fun q => h ((lg_cmp_eq _ _).mpr q)⟩⟩
  · rintro L G' ⟨rfl, rfl, hI⟩
    refine mg_go [2] 60 2 ms_88 ?_
    exact ⟨_, H.w hw, fun _ => ⟨Or.inr rfl, rfl, rfl, Or.inl ⟨rfl, hI⟩⟩, fun h => absurd h (Int32.not_lt.mpr (Int32.le_refl _))⟩
theorem mg_bit2 (x : Int64) (j : Nat) (hj : j < 64) : (x.toUInt64 >>> UInt64.ofNat j).toInt64.toInt32 &&& Int32.ofInt 1 = if x.toBitVec.getLsbD j then 1 else 0 := by
  apply Int32.toBitVec_inj.mp
  show (x.toUInt64 >>> UInt64.ofNat j).toInt64.toBitVec.signExtend 32 &&& 1#32 = _
  rw [BitVec.signExtend_eq_setWidth_of_le _ (by decide), BitVec.and_one_eq_setWidth_ofBool_getLsbD, BitVec.getLsbD_setWidth, a_shr x j hj 0, Nat.add_zero]
  cases x.toBitVec.getLsbD j <;> rfl
theorem c89 (d r k : Nat) (H : kT K a b N) (hk : k < 256) (hr : 4 * r + k / 64 < N) : mg_m K (d + 1) 89 [.ref a, .int (Int32.ofNat r), .int (Int32.ofNat k)] G (mg_v (.int (if (G.2.1 b (4 * r + k / 64)).toBitVec.getLsbD (k % 64) then 1 else 0)) G) := by
  have hN := H.2.2.2
  refine mg_me [] 40 my_89 ms_89 (Nat.le_of_ble_eq_true rfl) ?_
  refine ⟨_, H.b, N, _, 4 * r + k / 64, H.r, mg_ixE ?_ (by omega), hr, Or.inl rfl, ?_, rfl, rfl⟩
  · show Int32.ofNat r * Int32.ofInt 4 + (Int32.ofNat k >>> ((Int8.ofInt 6).toInt32 &&& 31)) = _
    rw [mg_div64 k hk]
    exact mg_4rw r _
  · rw [← mg_bit2 _ _ (Nat.mod_lt _ (by decide)), ← mg_mod64 k hk]
end CT
