/-- row r of bits b holds T (n words) -/
def cRow (G : mg_G) (b r n : Nat) (T : a_T) : Prop := ∀ w, w < n → G.2.1 b (4 * r + w) = a_wd T w
theorem mm_oldO (L : Nat) (xs : Nat → Int32) : mm_old L xs 1000000 = some (1, 6, .inr (.inl a_m)) := rfl
theorem mg_6 : (Int8.ofInt 6).toInt32 = Int32.ofNat 6 := by decide
theorem mg_sh6 : ∀ v, v < 8 → 6 ≤ v → Int32.ofInt 1 <<< ((Int32.ofNat v - (Int8.ofInt 6).toInt32) &&& 31) = Int32.ofNat (2 ^ (v - 6)) := by decide +kernel
theorem mg_wor : ∀ s, s < 4 → ∀ w, w < 4 → (Int32.ofNat w ||| Int32.ofNat s) = Int32.ofNat (w ||| s) ∧ (Int32.ofNat w &&& (Int32.ofNat s ^^^ Int32.ofInt (-1))) = Int32.ofNat (w - (w &&& s)) ∧ (Int32.ofNat w ^^^ Int32.ofNat s) = Int32.ofNat (w ^^^ s) := by decide +kernel
theorem mg_wor2 : ∀ n, n = 1 ∨ n = 2 ∨ n = 4 → ∀ s, s = 1 ∨ s = 2 → s < n → ∀ w, w < n → w ||| s < n ∧ w - (w &&& s) < n ∧ w ^^^ s < n := by
  intro n hn s hs hl w hw
  rcases hn with rfl | rfl | rfl <;> rcases hs with rfl | rfl <;> first | exact absurd hl (by decide) | (revert w; decide)
section CT
variable {K : mg_K} {a b N : Nat} {G : mg_G} {n : Nat}
theorem c90 (d r : Nat) (H : kT K a b N) (hw : G.2.2.2.2 a 1 = .int (Int32.ofNat n)) (hr : 4 * r + n ≤ N) : mg_m K (d + 1) 90 [.ref a, .int (Int32.ofNat r)] G (mg_v (.int (Int32.ofNat (a_hC (fun w => G.2.1 b (4 * r + w)) n))) G) := by
  have hN := H.2.2.2
  refine mg_me [5] 20 my_90 ms_90 (Nat.le_of_ble_eq_true rfl) ?_
  refine mg_loop n (fun k L G' => L = [some (.ref a), some (.int (Int32.ofNat r)), some (.long (a_hm (fun w => G.2.1 b (4 * r + w)) k)), none, some (.int (Int32.ofNat k))] ∧ G' = G) ?_ ?_ _ _ ⟨rfl, rfl⟩
  · rintro k L G' hk ⟨rfl, rfl⟩ ih
    refine mg_go [5] 60 5 ms_90 ?_
    refine ⟨_, H.w hw, fun h => absurd h (mg_nle hk (by omega)), fun _ => ⟨_, H.b, N, _, 4 * r + k, H.r, mg_ixE (mg_4rw r k) (by omega), by omega, ?_⟩⟩
    exact ih _ _ ⟨by rw [← mg_inc k]; rfl, rfl⟩
  · rintro L G' ⟨rfl, rfl⟩
    refine mg_go [5] 60 5 ms_90 ?_
    refine ⟨_, H.w hw, fun _ => ⟨Or.inl rfl, ?_, rfl, rfl⟩, fun h => absurd h (Int32.not_lt.mpr (Int32.le_refl _))⟩
    unfold a_hC
    rw [← a_hC_i]
theorem c78 (d nv : Nat) (h8 : nv ≤ 8) (H : kT K a b N) : mg_m K (d + 1) 78 [.ref a, .int (Int32.ofNat nv)] G (mg_n (mg_sF G a 1 (.int (Int32.ofNat (a_wds nv))))) := by
  have e := (a_wds_i nv h8).2
  refine mg_me [] 20 my_78 ms_78 (Nat.le_of_ble_eq_true rfl) ?_
  refine ⟨fun h => ?_, fun h => ?_⟩
  · rw [if_neg (Int32.not_le.mpr h)] at e
    refine ⟨rfl, _, H.1, rfl, rfl, rfl, ?_⟩
    rw [← e]
  · rw [if_pos h] at e
    refine ⟨rfl, _, H.1, rfl, rfl, rfl, ?_⟩
    rw [← e]
/-- a word of the table of a variable -/
def a_vw (v w : Nat) : Int64 := if v < 6 then a_m v else if (w / 2 ^ (v - 6)) % 2 = 1 then -1 else 0
theorem mg_vw : ∀ v, v < 8 → 6 ≤ v → ∀ w, w < 4 → (Int32.ofNat w >>> ((Int32.ofNat v - (Int8.ofInt 6).toInt32) &&& 31) &&& Int32.ofInt 1) = Int32.ofNat ((w / 2 ^ (v - 6)) % 2) := by decide +kernel
theorem c80 (d r v : Nat) (H : kT K a b N) (hw : G.2.2.2.2 a 1 = .int (Int32.ofNat n)) (hn : n ≤ 4) (hv : v < 8) (hr : 4 * r + n ≤ N) : mg_m K (d + 1) 80 [.ref a, .int (Int32.ofNat r), .int (Int32.ofNat v)] G (mg_n (cW G b r n (a_vw v))) := by
  have hN := H.2.2.2
  refine mg_me [7] 20 my_80 ms_80 (Nat.le_of_ble_eq_true rfl) ?_
  refine mg_loop n (fun k L G' => L = [some (.ref a), some (.int (Int32.ofNat r)), some (.int (Int32.ofNat v)), some (.int (Int32.ofNat r * Int32.ofInt 4)), some (.int (Int32.ofNat k))] ∧ G' = cW G b r k (a_vw v)) ?_ ?_ _ _ ⟨rfl, (cW_0 _ _ _ _).symm⟩
  · rintro k L G' hk ⟨rfl, rfl⟩ ih
    refine mg_go [7] 80 7 ms_80 ?_
    refine ⟨_, H.w hw, fun h => absurd h (mg_nle hk (by omega)), fun _ => ⟨fun h6 => ?_, fun h6 => ?_⟩⟩
    · have h6 : 6 ≤ v := (mg_leN (by omega) (by omega)).mp (show Int32.ofNat 6 ≤ Int32.ofNat v from mg_6 ▸ h6)
      refine ⟨_, H.b, fun h => ?_, fun h => ?_⟩
      · refine ⟨N, 4 * r + k, H.2.1, mg_ixE (mg_4rw r k) (by omega), by omega, ih _ _ ⟨by rw [← mg_inc k], ?_⟩⟩
        have h : ¬ (Int32.ofNat k >>> ((Int32.ofNat v - (Int8.ofInt 6).toInt32) &&& 31) &&& Int32.ofInt 1) = Int32.ofInt 1 := h
        rw [mg_vw v hv h6 k (by omega)] at h
        have h1 : ¬ (k / 2 ^ (v - 6)) % 2 = 1 := fun q => h (by rw [q]; rfl)
        rw [← cW_s, show a_vw v k = 0 by unfold a_vw; rw [if_neg (by omega), if_neg h1]]
        rfl
      · refine ⟨N, 4 * r + k, H.2.1, mg_ixE (mg_4rw r k) (by omega), by omega, ih _ _ ⟨by rw [← mg_inc k], ?_⟩⟩
        have h : (Int32.ofNat k >>> ((Int32.ofNat v - (Int8.ofInt 6).toInt32) &&& 31) &&& Int32.ofInt 1) = Int32.ofInt 1 := h
        rw [mg_vw v hv h6 k (by omega)] at h
        have h1 : (k / 2 ^ (v - 6)) % 2 = 1 := (mg_eqN (by omega) (by decide)).mp (show Int32.ofNat _ = Int32.ofNat 1 from h)
        rw [← cW_s, show a_vw v k = -1 by unfold a_vw; rw [if_neg (by omega), if_pos h1]]
    · have h6 : v < 6 := (mg_ltN (by omega) (by omega)).mp (show Int32.ofNat v < Int32.ofNat 6 from mg_6 ▸ h6)
      refine ⟨_, H.b, 6, _, v, mg_Ao (mm_oldO _ _) (by decide), mg_ixN (by omega), h6, ?_⟩
      refine ⟨N, 4 * r + k, H.2.1, mg_ixE (mg_4rw r k) (by omega), by omega, ih _ _ ⟨by rw [← mg_inc k], ?_⟩⟩
      rw [← cW_s, show a_vw v k = a_m v by unfold a_vw; rw [if_pos h6]]
  · rintro L G' ⟨rfl, rfl⟩
    refine mg_go [7] 60 7 ms_80 ?_
    exact ⟨_, H.w hw, fun _ => ⟨rfl, rfl, rfl⟩, fun h => absurd h (Int32.not_lt.mpr (Int32.le_refl _))⟩
theorem a_cf_hi {T : a_T} {v : Nat} (hv : v < 8) (h6 : 6 ≤ v) : ∀ w, w < 4 → a_wd (a_cf T v true) w = a_wd T (w ||| 2 ^ (v - 6)) ∧ a_wd (a_cf T v false) w = a_wd T (w - (w &&& 2 ^ (v - 6))) := by
  intro w hw
  rcases (show v = 6 ∨ v = 7 by omega) with rfl | rfl <;> rcases (show w = 0 ∨ w = 1 ∨ w = 2 ∨ w = 3 by omega) with rfl | rfl | rfl | rfl <;> exact ⟨rfl, rfl⟩
theorem c86 (d r r1 v : Nat) (x : Bool) (H : kT K a b N) (hw : G.2.2.2.2 a 1 = .int (Int32.ofNat n)) (hn : n = 1 ∨ n = 2 ∨ n = 4) (hv : v < 8) (hvn : 6 ≤ v → 2 ^ (v - 6) < n) (hr : 4 * r + n ≤ N) (hr1 : 4 * r1 + n ≤ N) (hne : r ≠ r1) {T : a_T} (hT : cRow G b r1 n T) : mg_m K (d + 1) 86 [.ref a, .int (Int32.ofNat r), .int (Int32.ofNat r1), .int (Int32.ofNat v), .int (if x then 1 else 0)] G (mg_n (cW G b r n (a_wd (a_cf T v x)))) := by
  have hN := H.2.2.2
  refine mg_me [27, 89] 40 my_86 ms_86 (Nat.le_of_ble_eq_true rfl) ?_
  refine ⟨fun h6 => ?_, fun h6 => ?_⟩
  · have h6 : v < 6 := (mg_ltN (by omega) (by omega)).mp (show Int32.ofNat v < Int32.ofNat 6 from mg_6 ▸ h6)
    refine mg_loop n (fun k L G' => (∃ e1 e2, L = [some (.ref a), some (.int (Int32.ofNat r)), some (.int (Int32.ofNat r1)), some (.int (Int32.ofNat v)), some (.int (if x then 1 else 0)), some (.int (Int32.ofNat r * Int32.ofInt 4)), some (.int (Int32.ofNat r1 * Int32.ofInt 4)), some (.int (Int32.ofInt 1 <<< (Int32.ofNat v &&& 31))), some (.int (Int32.ofNat k)), e1, none, e2, none]) ∧ G' = cW G b r k (a_wd (a_cf T v x))) ?_ ?_ _ _ ⟨⟨none, none, rfl⟩, (cW_0 _ _ _ _).symm⟩
    · rintro k L G' hk ⟨⟨e1, e2, rfl⟩, rfl⟩ ih
      have hrd : (cW G b r k (a_wd (a_cf T v x))).2.1 b (4 * r1 + k) = a_wd T k := (cW_at _ _ _ _ _ _ (by omega)).trans (hT k hk)
      refine mg_go [89] 100 89 ms_86 ?_
      refine ⟨_, H.w hw, fun h => absurd h (mg_nle hk (by omega)), fun _ => ⟨_, H.b, N, _, 4 * r1 + k, H.r, mg_ixE (mg_4rw r1 k) (by omega), by omega, ?_⟩⟩
      refine ⟨6, _, v, mg_Ao (mm_oldO _ _) (by decide), mg_ixN (by omega), h6, ?_⟩
      refine ⟨_, H.b, N, _, 4 * r1 + k, H.r, mg_ixE (mg_4rw r1 k) (by omega), by omega, ?_⟩
      refine ⟨6, _, v, mg_Ao (mm_oldO _ _) (by decide), mg_ixN (by omega), h6, ?_⟩
      refine ⟨_, H.b, ?_⟩
      rw [hrd]
      have hc := a_cof_wd a_m T v (if x then 1 else 0) k (by omega)
      unfold a_left at hc
      rw [if_pos (a_v6 v h6).1, a_pickN T k (by omega), (a_v6 v h6).2.1] at hc
      refine ⟨fun hx => ?_, fun hx => ?_⟩
      · refine ⟨N, 4 * r + k, H.2.1, mg_ixE (mg_4rw r k) (by omega), by omega, ih _ _ ⟨⟨_, _, by rw [← mg_inc k]⟩, ?_⟩⟩
        rw [← cW_s]
        cases x with
        | true => exact absurd hx (by decide)
        | false =>
          rw [if_neg (by decide)] at hc
          exact congrArg (mg_sJ _ b (4 * r + k)) hc.symm
      · refine ⟨N, 4 * r + k, H.2.1, mg_ixE (mg_4rw r k) (by omega), by omega, ih _ _ ⟨⟨_, _, by rw [← mg_inc k]⟩, ?_⟩⟩
        rw [← cW_s]
        cases x with
        | false => exact absurd rfl hx
        | true =>
          rw [if_pos rfl] at hc
          exact congrArg (mg_sJ _ b (4 * r + k)) hc.symm
    · rintro L G' ⟨⟨e1, e2, rfl⟩, rfl⟩
      refine mg_go [89] 60 89 ms_86 ?_
      exact ⟨_, H.w hw, fun _ => ⟨rfl, rfl, rfl⟩, fun h => absurd h (Int32.not_lt.mpr (Int32.le_refl _))⟩
  · have h6 : 6 ≤ v := (mg_leN (by omega) (by omega)).mp (show Int32.ofNat 6 ≤ Int32.ofNat v from mg_6 ▸ h6)
    have hs := hvn h6
    have hs2 : 2 ^ (v - 6) = 1 ∨ 2 ^ (v - 6) = 2 := by
      rcases (show v = 6 ∨ v = 7 by omega) with rfl | rfl
      · exact Or.inl rfl
      · exact Or.inr rfl
    refine mg_loop n (fun k L G' => L = [some (.ref a), some (.int (Int32.ofNat r)), some (.int (Int32.ofNat r1)), some (.int (Int32.ofNat v)), some (.int (if x then 1 else 0)), some (.int (Int32.ofNat r * Int32.ofInt 4)), some (.int (Int32.ofNat r1 * Int32.ofInt 4)), some (.int (Int32.ofInt 1 <<< ((Int32.ofNat v - (Int8.ofInt 6).toInt32) &&& 31))), some (.int (Int32.ofNat k)), none, none, none, none] ∧ G' = cW G b r k (a_wd (a_cf T v x))) ?_ ?_ _ _ ⟨rfl, (cW_0 _ _ _ _).symm⟩
    · rintro k L G' hk ⟨rfl, rfl⟩ ih
      rw [mg_sh6 v hv h6] at ih ⊢
      obtain ⟨q1, q2, -⟩ := mg_wor (2 ^ (v - 6)) (by omega) k (by omega)
      obtain ⟨q3, q4, -⟩ := mg_wor2 n hn _ hs2 hs k hk
      obtain ⟨q5, q6⟩ := a_cf_hi (T := T) hv h6 k (by omega)
      refine mg_go [27] 100 27 ms_86 ?_
      refine ⟨_, H.w hw, fun h => absurd h (mg_nle hk (by omega)), fun _ => ⟨_, H.b, _, H.b, fun hx => ?_, fun hx => ?_⟩⟩
      · refine ⟨N, _, 4 * r1 + (k - (k &&& 2 ^ (v - 6))), H.r, mg_ixE ((congrArg (Int32.ofNat r1 * Int32.ofInt 4 + ·) q2).trans (mg_4rw r1 _)) (by omega), by omega, ?_⟩
        refine ⟨N, 4 * r + k, H.2.1, mg_ixE (mg_4rw r k) (by omega), by omega, ih _ _ ⟨by rw [← mg_inc k], ?_⟩⟩
        rw [← cW_s]
        cases x with
        | true => exact absurd hx (by decide)
        | false => exact congrArg (mg_sJ _ b (4 * r + k)) (((cW_at _ _ _ _ _ _ (by omega)).trans (hT _ q4)).trans q6.symm)
      · refine ⟨N, _, 4 * r1 + (k ||| 2 ^ (v - 6)), H.r, mg_ixE ((congrArg (Int32.ofNat r1 * Int32.ofInt 4 + ·) q1).trans (mg_4rw r1 _)) (by omega), by omega, ?_⟩
        refine ⟨N, 4 * r + k, H.2.1, mg_ixE (mg_4rw r k) (by omega), by omega, ih _ _ ⟨by rw [← mg_inc k], ?_⟩⟩
        rw [← cW_s]
        cases x with
        | false => exact absurd rfl hx
        | true => exact congrArg (mg_sJ _ b (4 * r + k)) (((cW_at _ _ _ _ _ _ (by omega)).trans (hT _ q3)).trans q5.symm)
    · rintro L G' ⟨rfl, rfl⟩
      refine mg_go [27] 60 27 ms_86 ?_
      exact ⟨_, H.w hw, fun _ => ⟨rfl, rfl, rfl⟩, fun h => absurd h (Int32.not_lt.mpr (Int32.le_refl _))⟩
theorem c87 (d r v : Nat) (H : kT K a b N) (hw : G.2.2.2.2 a 1 = .int (Int32.ofNat n)) (hn : n = 1 ∨ n = 2 ∨ n = 4) (hv : v < 8) (hvn : 6 ≤ v → 2 ^ (v - 6) < n) (hr : 4 * r + n ≤ N) {T : a_T} (hT : cRow G b r n T) (hp : a_pw T n) : mg_m K (d + 1) 87 [.ref a, .int (Int32.ofNat r), .int (Int32.ofNat v)] G (mg_v (.int (if a_dp T v then 1 else 0)) G) := by
  have hN := H.2.2.2
  refine mg_me [21, 68] 40 my_87 ms_87 (Nat.le_of_ble_eq_true rfl) ?_
  refine ⟨fun h6 => ?_, fun h6 => ?_⟩
  · have h6 : v < 6 := (mg_ltN (by omega) (by omega)).mp (show Int32.ofNat v < Int32.ofNat 6 from mg_6 ▸ h6)
    have hdp := a_dp_lo hp (by omega) (by omega) h6
    refine mg_loop n (fun k L G' => (∃ e1, L = [some (.ref a), some (.int (Int32.ofNat r)), some (.int (Int32.ofNat v)), some (.int (Int32.ofNat r * Int32.ofInt 4)), some (.int (Int32.ofNat k)), e1, none]) ∧ G' = G ∧ ∀ w, w < k → a_d1 (a_wd T w) v = 0) ?_ ?_ _ _ ⟨⟨none, rfl⟩, rfl, fun w h => absurd h (Nat.not_lt_zero _)⟩
    · rintro k L G' hk ⟨⟨e1, rfl⟩, rfl, hI⟩ ih
      refine mg_go [68] 100 68 ms_87 ?_
      refine ⟨_, H.w hw, fun h => absurd h (mg_nle hk (by omega)), fun _ => ⟨_, H.b, N, _, 4 * r + k, H.r, mg_ixE (mg_4rw r k) (by omega), by omega, ?_⟩⟩
      refine ⟨_, H.b, N, _, 4 * r + k, H.r, mg_ixE (mg_4rw r k) (by omega), by omega, ?_⟩
      refine ⟨6, _, v, mg_Ao (mm_oldO _ _) (by decide), mg_ixN (by omega), h6, ?_⟩
      rw [hT k hk]
      refine ⟨fun h => ?_, fun h => ?_⟩
      · refine ih _ _ ⟨⟨_, by rw [← mg_inc k]⟩, rfl, fun w hw9 => ?_⟩
        rcases Nat.lt_or_eq_of_le (Nat.le_of_lt_succ hw9) with h9 | rfl
        · exact hI w h9
        · exact (lg_cmp_eq _ _).mp h
      · refine ⟨Or.inr rfl, ?_, rfl, rfl⟩
        rw [if_pos (hdp.mpr ⟨k, hk, fun q => h ((lg_cmp_eq _ _).mpr q)⟩)]
        rfl
    · rintro L G' ⟨⟨e1, rfl⟩, rfl, hI⟩
      refine mg_go [68] 60 68 ms_87 ?_
      refine ⟨_, H.w hw, fun _ => ⟨Or.inr rfl, ?_, rfl, rfl⟩, fun h => absurd h (Int32.not_lt.mpr (Int32.le_refl _))⟩
      rw [if_neg (fun q => by obtain ⟨w, h1, h2⟩ := hdp.mp q; exact h2 (hI w h1))]
      rfl
  · have h6 : 6 ≤ v := (mg_leN (by omega) (by omega)).mp (show Int32.ofNat 6 ≤ Int32.ofNat v from mg_6 ▸ h6)
    have hs := hvn h6
    have hs2 : 2 ^ (v - 6) = 1 ∨ 2 ^ (v - 6) = 2 := by
      rcases (show v = 6 ∨ v = 7 by omega) with rfl | rfl
      · exact Or.inl rfl
      · exact Or.inr rfl
    have hs4 : 2 ^ (v - 6) < 4 := by omega
    have hn4 : n ≤ 4 := by omega
    have hdp := a_dp_hi hp hn h6 hs
    refine mg_loop n (fun k L G' => L = [some (.ref a), some (.int (Int32.ofNat r)), some (.int (Int32.ofNat v)), some (.int (Int32.ofNat r * Int32.ofInt 4)), some (.int (Int32.ofInt 1 <<< ((Int32.ofNat v - (Int8.ofInt 6).toInt32) &&& 31))), some (.int (Int32.ofNat k)), none] ∧ G' = G ∧ ∀ w, w < k → a_wd T w = a_wd T (w ^^^ 2 ^ (v - 6))) ?_ ?_ _ _ ⟨rfl, rfl, fun w h => absurd h (Nat.not_lt_zero _)⟩
    · rintro k L G' hk ⟨rfl, rfl, hI⟩ ih
      rw [mg_sh6 v hv h6] at ih ⊢
      obtain ⟨-, -, q1⟩ := mg_wor (2 ^ (v - 6)) hs4 k (Nat.lt_of_lt_of_le hk hn4)
      obtain ⟨-, -, q2⟩ := mg_wor2 n hn _ hs2 hs k hk
      refine mg_go [21] 100 21 ms_87 ?_
      refine ⟨_, H.w hw, fun h => absurd h (mg_nle hk (by omega)), fun _ => ⟨_, H.b, N, _, 4 * r + k, H.r, mg_ixE (mg_4rw r k) (by omega), by omega, ?_⟩⟩
      refine ⟨_, H.b, N, _, 4 * r + (k ^^^ 2 ^ (v - 6)), H.r, mg_ixE ((congrArg (Int32.ofNat r * Int32.ofInt 4 + ·) q1).trans (mg_4rw r _)) (by omega), by omega, ?_⟩
      rw [hT k hk, hT _ q2]
      refine ⟨fun h => ?_, fun h => ?_⟩
      · refine ih _ _ ⟨by rw [← mg_inc k], rfl, fun w hw9 => ?_⟩
        rcases Nat.lt_or_eq_of_le (Nat.le_of_lt_succ hw9) with h9 | rfl
        · exact hI w h9
        · exact (lg_cmp_eq _ _).mp h
      · refine ⟨Or.inr rfl, ?_, rfl, rfl⟩
        rw [if_pos (hdp.mpr ⟨k, hk, fun q => h ((lg_cmp_eq _ _).mpr q)⟩)]
        rfl
    · rintro L G' ⟨rfl, rfl, hI⟩
      refine mg_go [21] 60 21 ms_87 ?_
      refine ⟨_, H.w hw, fun _ => ⟨Or.inr rfl, ?_, rfl, rfl⟩, fun h => absurd h (Int32.not_lt.mpr (Int32.le_refl _))⟩
      rw [if_neg (fun q => by obtain ⟨w, h1, h2⟩ := hdp.mp q; exact h2 (hI w h1))]
      rfl
end CT
