/-! CLASS, DIAGRAM: walks over the graph -/
def cGr (G : mg_G) (b : Nat) (nv : Nat) (g : a_Gr) : Prop := G.2.2.2.2 b 12 = .int (Int32.ofNat (gN g)) ∧ G.2.2.2.2 b 10 = .int (Int32.ofNat nv) ∧ (∀ k, k < gN g → G.1 (b + 3) k = Int32.ofNat (gL g k)) ∧ (∀ k, k < 2 → G.1 (b + 4) k = Int32.ofInt (-1) ∧ G.1 (b + 5) k = Int32.ofInt (-1)) ∧ ∀ k, 2 ≤ k → k < gN g → G.1 (b + 4) k = Int32.ofNat (gO g k) ∧ G.1 (b + 5) k = Int32.ofNat (gH g k)
theorem cDr.gr {G : mg_G} {b : Nat} {ord : Nat → Nat} {nv nf n f : Nat} {tb : Nat → a_T} (h : cDr G b ord nv nf n tb f) (hv : G.2.2.2.2 b 10 = .int (Int32.ofNat nv)) : cGr G b nv (a_gr ord nv (a_all ord nv tb f)) := by
  obtain ⟨h2, -, h4, h5, -⟩ := h
  have inn : ∀ k, 2 ≤ k → k < (a_all ord nv tb f).length + 2 → G.1 (b + 3) k = Int32.ofNat (gL (a_gr ord nv (a_all ord nv tb f)) k) ∧ G.1 (b + 4) k = Int32.ofNat (gO (a_gr ord nv (a_all ord nv tb f)) k) ∧ G.1 (b + 5) k = Int32.ofNat (gH (a_gr ord nv (a_all ord nv tb f)) k) := fun k hk hl => by
    obtain ⟨T, kl, kh, e, h6, e1, e2, h7, e3, h8⟩ := h4 (k - 2) (by omega)
    rw [show k - 2 + 2 = k by omega] at e1 e2 e3
    obtain ⟨g1, g2, g3⟩ := a_gr_at (ord := ord) (nv := nv) (a_all_nd ord nv tb f) (a_all_nl ord nv tb f) hk e
    rw [g1, g2 kl h7, g3 kh h8]
    exact ⟨e1, e2, e3⟩
  refine ⟨h2.1, hv, fun k hk => ?_, fun k hk => (h5 k hk).2, fun k hk hl => (inn k hk hl).2⟩
  by_cases h2 : 2 ≤ k
  · exact (inn k h2 hk).1
  · show _ = Int32.ofNat (if 2 ≤ k ∧ k < (a_all ord nv tb f).length + 2 then _ else nv)
    rw [if_neg (fun q => h2 q.1)]
    exact (h5 k (by omega)).1
theorem cDr.cl {G : mg_G} {b : Nat} {ord : Nat → Nat} {nv nf n f : Nat} {tb : Nat → a_T} (h : cDr G b ord nv nf n tb f) : aCl ord nv (a_all ord nv tb f) := fun i hi => by
  obtain ⟨T, kl, kh, e, h6, -, -, h7, -, h8⟩ := h.2.2.1 i hi
  exact ⟨T, kl, kh, e, h6, h7, h8⟩
def a_bq (q : Nat) : Int32 := Int32.ofBitVec (BitVec.twoPow 32 q)
theorem mg_bq : ∀ q, q < 12 → (1 : Int32) <<< (Int32.ofNat q &&& 31) = a_bq q := by decide +kernel
def a_bt (x : Int32) (q : Nat) : Bool := x.toBitVec.getLsbD q
theorem a_bt_or (x y : Int32) (q : Nat) : a_bt (x ||| y) q = (a_bt x q || a_bt y q) := by
  show (x.toBitVec ||| y.toBitVec).getLsbD q = _
  rw [BitVec.getLsbD_or]
  rfl
theorem a_bt_and (x y : Int32) (q : Nat) : a_bt (x &&& y) q = (a_bt x q && a_bt y q) := by
  show (x.toBitVec &&& y.toBitVec).getLsbD q = _
  rw [BitVec.getLsbD_and]
  rfl
theorem a_bt_bq (q r : Nat) (hr : r < 32) : a_bt (a_bq q) r = decide (q = r) := by
  show (BitVec.twoPow 32 q).getLsbD r = _
  rw [BitVec.getLsbD_twoPow]
  by_cases e : q = r
  · subst e
    rw [decide_eq_true hr, Bool.true_and]
  · rw [decide_eq_false e, Bool.and_false]
theorem a_bt_ext {x y : Int32} (h : ∀ r, r < 32 → a_bt x r = a_bt y r) : x = y := Int32.toBitVec_inj.mp (BitVec.eq_of_getLsbD_eq h)
theorem a_bt_0 (x : Int32) (q : Nat) (hq : q < 32) : x &&& a_bq q = 0 ↔ a_bt x q = false := by
  constructor
  · intro h
    have := a_bt_and x (a_bq q) q
    rw [h, a_bt_bq q q hq, decide_eq_true rfl, Bool.and_true] at this
    rw [← this]
    show (0#32).getLsbD q = false
    simp
  · intro h
    refine a_bt_ext fun r hr => ?_
    rw [a_bt_and, a_bt_bq q r hr]
    by_cases e : q = r
    · subst e
      rw [h, Bool.false_and]
      show _ = (0#32).getLsbD q
      simp
    · rw [decide_eq_false e, Bool.and_false]
      show _ = (0#32).getLsbD r
      simp
theorem a_bt_oq (x : Int32) (q r : Nat) (hr : r < 32) : a_bt (x ||| a_bq q) r = (a_bt x r || decide (q = r)) := by rw [a_bt_or, a_bt_bq q r hr]
/-- what the marks with bit q come to -/
def gMq (g : a_Gr) (f f' : Nat → Int32) (q : Nat) (M : Nat → Bool) : Prop := ∀ y, y < gN g → ∀ r, r < 32 → a_bt (f' y) r = (a_bt (f y) r || (decide (q = r) && M y))
section CG
variable {K : mg_K} {b : Nat} {G : mg_G} {nv : Nat} {g : a_Gr}
theorem c15 (H : kD K b) (hR : cGr G b nv g) (hg : gW nv g) (x : Int32) : ∀ m d k dp, k < gN g → nv ≤ gL g k + m → dp ≤ gL g k → mg_m K (d + m + 1) 15 [.ref b, .int (Int32.ofNat k), .int x, .int (Int32.ofNat dp)] G (mg_v (.int (g_pa g x m k)) G) := by
  have leaf : ∀ d m k dp, k < 2 → mg_m K (d + 1) 15 [.ref b, .int (Int32.ofNat k), .int x, .int (Int32.ofNat dp)] G (mg_v (.int (g_pa g x m k)) G) := fun d m k dp hk => by
    refine mg_me [] 60 my_15 ms_15 (Nat.le_of_ble_eq_true rfl) ?_
    refine ⟨fun _ => ⟨fun h => ?_, fun h => ?_⟩, fun h => absurd h (mg_nle (b := 2) hk (by decide))⟩
    · exact ⟨Or.inl rfl, by rw [g_pa_lf g x m k hk, if_neg h]; rfl, rfl, rfl⟩
    · exact ⟨Or.inl rfl, by rw [g_pa_lf g x m k hk, if_pos h]; rfl, rfl, rfl⟩
  have h9 := hg.2.1
  have h8 := hg.2.2.1
  intro m
  induction m with
  | zero =>
    intro d k dp hk hl _
    refine leaf d 0 k dp (Decidable.byContradiction fun q => ?_)
    have := (hg.2.2.2.2 k (by omega) hk).1
    omega
  | succ m ih =>
    intro d k dp hk hl hdp
    by_cases h2 : k < 2
    · exact leaf (d + (m + 1)) (m + 1) k dp h2
    · have h2 : 2 ≤ k := by omega
      obtain ⟨q1, q2, q3, q4, q5⟩ := hg.2.2.2.2 k h2 hk
      obtain ⟨e2, e3⟩ := hR.2.2.2.2 k h2 hk
      have i1 := ih d _ (dp + 1) q2 (by omega) (by omega)
      have i2 := ih d _ (dp + 1) q3 (by omega) (by omega)
      rw [← mg_inc dp, ← e2] at i1
      rw [← mg_inc dp, ← e3] at i2
      refine mg_me [] 60 my_15 ms_15 (Nat.le_of_ble_eq_true rfl) ?_

      refine ⟨fun h => absurd h (mg_nlt (a := 2) h2 (by omega)), fun _ => ⟨fun _ => ?_, fun h => absurd h (mg_nlt (b := 8) (a := dp) (by omega) (by omega))⟩⟩
      refine ⟨_, H.lo, 628, _, k, H.A4, mg_ixN (by omega), by omega, Or.inr H.is, mg_cv i1 (by omega) ?_⟩
      refine ⟨_, H.hi, 628, _, k, H.A5, mg_ixN (by omega), by omega, Or.inr H.is, mg_cv i2 (by omega) ?_⟩
      exact ⟨Or.inl rfl, by rw [g_pa_in g x m k h2], rfl, rfl⟩
theorem c17 (H : kD K b) (hR : cGr G b nv g) (hg : gW nv g) (x : Int32) : ∀ m d k dp, k < gN g → m ≤ 8 → nv ≤ gL g k + m → dp ≤ gL g k → mg_m K (d + m + 1) 17 [.ref b, .int (Int32.ofNat k), .int x, .int (Int32.ofNat dp)] G (mg_v (.int (a_oi (g_sh g x m k))) G) := by
  have leaf : ∀ d m k dp, k < 2 → mg_m K (d + 1) 17 [.ref b, .int (Int32.ofNat k), .int x, .int (Int32.ofNat dp)] G (mg_v (.int (a_oi (g_sh g x m k))) G) := fun d m k dp hk => by
    refine mg_me [] 60 my_17 ms_17 (Nat.le_of_ble_eq_true rfl) ?_
    refine ⟨fun _ => ⟨fun h => ?_, fun h => ?_⟩, fun h => absurd h (mg_nle (b := 2) hk (by decide))⟩
    · exact ⟨Or.inl rfl, by rw [g_sh_lf g x m k hk, if_neg h]; rfl, rfl, rfl⟩
    · exact ⟨Or.inl rfl, by rw [g_sh_lf g x m k hk, if_pos h]; rfl, rfl, rfl⟩
  have h9 := hg.2.1
  have h8 := hg.2.2.1
  intro m
  induction m with
  | zero =>
    intro d k dp hk _ hl _
    refine leaf d 0 k dp (Decidable.byContradiction fun q => ?_)
    have := (hg.2.2.2.2 k (by omega) hk).1
    omega
  | succ m ih =>
    intro d k dp hk hm hl hdp
    by_cases h2 : k < 2
    · exact leaf (d + (m + 1)) (m + 1) k dp h2
    · have h2 : 2 ≤ k := by omega
      obtain ⟨q1, q2, q3, q4, q5⟩ := hg.2.2.2.2 k h2 hk
      obtain ⟨e2, e3⟩ := hR.2.2.2.2 k h2 hk
      have i1 := ih d _ (dp + 1) q2 (by omega) (by omega) (by omega)
      have i2 := ih d _ (dp + 1) q3 (by omega) (by omega) (by omega)
      rw [← mg_inc dp, ← e2] at i1
      rw [← mg_inc dp, ← e3] at i2
      have b1 := g_sh_le g x m (gO g k)
      have b2 := g_sh_le g x m (gH g k)
      refine mg_me [] 90 my_17 ms_17 (Nat.le_of_ble_eq_true rfl) ?_

      refine ⟨fun h => absurd h (mg_nlt (a := 2) h2 (by omega)), fun _ => ⟨fun _ => ?_, fun h => absurd h (mg_nlt (b := 8) (a := dp) (by omega) (by omega))⟩⟩
      refine ⟨_, H.lo, 628, _, k, H.A4, mg_ixN (by omega), by omega, Or.inr H.is, mg_cv i1 (by omega) ?_⟩
      refine ⟨_, H.hi, 628, _, k, H.A5, mg_ixN (by omega), by omega, Or.inr H.is, mg_cv i2 (by omega) ?_⟩
      rw [g_sh_in g x m k h2]
      cases o1 : g_sh g x m (gO g k) with
      | none =>
        cases o2 : g_sh g x m (gH g k) with
        | none => exact ⟨fun _ => ⟨fun h => absurd rfl h, fun _ => ⟨Or.inl rfl, rfl, rfl, rfl⟩⟩, fun h => absurd rfl h⟩
        | some c =>
          have hc := b2 c o2
          exact ⟨fun _ => ⟨fun _ => ⟨Or.inl rfl, by show (Sum.inl (some (Value.int (Int32.ofNat c + Int32.ofInt 1))) : Option Value ⊕ String) = _; rw [mg_inc]; rfl, rfl, rfl⟩, fun h => absurd h (mg_n1 (by omega))⟩, fun h => absurd rfl h⟩
      | some a =>
        have ha := b1 a o1
        cases o2 : g_sh g x m (gH g k) with
        | none => exact ⟨fun h => absurd h (mg_n1 (by omega)), fun _ => ⟨fun _ => ⟨fun _ => ⟨Or.inl rfl, by show (Sum.inl (some (Value.int (Int32.ofNat a + Int32.ofInt 1))) : Option Value ⊕ String) = _; rw [mg_inc]; rfl, rfl, rfl⟩, fun h => absurd h (mg_n1 (by omega))⟩, fun h => absurd rfl h⟩⟩
        | some c =>
          have hc := b2 c o2
          refine ⟨fun h => absurd h (mg_n1 (by omega)), fun _ => ⟨fun h => absurd h (mg_n1 (by omega)), fun _ => ⟨fun h => ?_, fun h => ?_⟩⟩⟩
          · have h := (mg_leN (by omega) (by omega)).mp h
            refine ⟨fun _ => ⟨Or.inl rfl, ?_, rfl, rfl⟩, fun h => absurd h (mg_n1 (by omega))⟩
            show (Sum.inl (some (Value.int (Int32.ofNat a + Int32.ofInt 1))) : Option Value ⊕ String) = Sum.inl (some (Value.int (Int32.ofNat ((if a < c then a else c) + 1))))
            rw [mg_inc]
            by_cases q : a < c
            · rw [if_pos q]
            · rw [if_neg q, show a = c by omega]
          · have h := (mg_ltN (by omega) (by omega)).mp h
            refine ⟨fun _ => ⟨Or.inl rfl, ?_, rfl, rfl⟩, fun h => absurd h (mg_n1 (by omega))⟩
            show (Sum.inl (some (Value.int (Int32.ofNat c + Int32.ofInt 1))) : Option Value ⊕ String) = Sum.inl (some (Value.int (Int32.ofNat ((if a < c then a else c) + 1))))
            rw [mg_inc, if_neg (by omega)]
theorem c19 (H : kD K b) (hR : cGr G b nv g) (hg : gW nv g) : ∀ m d k dp, k < gN g → m ≤ 8 → nv ≤ gL g k + m → dp ≤ gL g k → mg_m K (d + m + 1) 19 [.ref b, .int (Int32.ofNat k), .int (Int32.ofNat dp)] G (mg_v (.int (Int32.ofNat (g_lo g m k))) G) := by
  have leaf : ∀ d m k dp, k < 2 → mg_m K (d + 1) 19 [.ref b, .int (Int32.ofNat k), .int (Int32.ofNat dp)] G (mg_v (.int (Int32.ofNat (g_lo g m k))) G) := fun d m k dp hk => by
    refine mg_me [] 60 my_19 ms_19 (Nat.le_of_ble_eq_true rfl) ?_
    refine ⟨fun _ => ?_, fun h => absurd h (mg_nle (b := 2) hk (by decide))⟩
    exact ⟨Or.inl rfl, by rw [g_lo_lf g m k hk]; rfl, rfl, rfl⟩
  have h9 := hg.2.1
  have h8 := hg.2.2.1
  intro m
  induction m with
  | zero =>
    intro d k dp hk _ hl _
    refine leaf d 0 k dp (Decidable.byContradiction fun q => ?_)
    have := (hg.2.2.2.2 k (by omega) hk).1
    omega
  | succ m ih =>
    intro d k dp hk hm hl hdp
    by_cases h2 : k < 2
    · exact leaf (d + (m + 1)) (m + 1) k dp h2
    · have h2 : 2 ≤ k := by omega
      obtain ⟨q1, q2, q3, q4, q5⟩ := hg.2.2.2.2 k h2 hk
      obtain ⟨e2, e3⟩ := hR.2.2.2.2 k h2 hk
      have i1 := ih d _ (dp + 1) q2 (by omega) (by omega) (by omega)
      have i2 := ih d _ (dp + 1) q3 (by omega) (by omega) (by omega)
      rw [← mg_inc dp, ← e2] at i1
      rw [← mg_inc dp, ← e3] at i2
      have b1 := g_lo_le g m (gO g k)
      have b2 := g_lo_le g m (gH g k)
      refine mg_me [] 90 my_19 ms_19 (Nat.le_of_ble_eq_true rfl) ?_

      refine ⟨fun h => absurd h (mg_nlt (a := 2) h2 (by omega)), fun _ => ⟨fun _ => ?_, fun h => absurd h (mg_nlt (b := 8) (a := dp) (by omega) (by omega))⟩⟩
      refine ⟨_, H.lo, 628, _, k, H.A4, mg_ixN (by omega), by omega, Or.inr H.is, mg_cv i1 (by omega) ?_⟩
      refine ⟨_, H.hi, 628, _, k, H.A5, mg_ixN (by omega), by omega, Or.inr H.is, mg_cv i2 (by omega) ?_⟩
      refine ⟨Nat.le_of_ble_eq_true rfl, Or.inl rfl, ?_, rfl, rfl⟩
      show (Sum.inl (some (Value.int (Int32.ofInt 1 + (if Int32.ofNat (g_lo g m (gO g k)) < Int32.ofNat (g_lo g m (gH g k)) then Int32.ofNat (g_lo g m (gH g k)) else Int32.ofNat (g_lo g m (gO g k)))))) : Option Value ⊕ String) = _
      rw [g_lo_in g m k h2, Int32.add_comm]
      by_cases q : g_lo g m (gO g k) < g_lo g m (gH g k)
      · rw [if_pos ((mg_ltN (by omega) (by omega)).mpr q), if_neg (by omega), mg_inc]
      · rw [if_neg (fun h => q ((mg_ltN (by omega) (by omega)).mp h)), mg_inc]
        by_cases q2 : g_lo g m (gH g k) < g_lo g m (gO g k)
        · rw [if_pos q2]
        · rw [if_neg q2, show g_lo g m (gO g k) = g_lo g m (gH g k) by omega]
theorem c8 (H : kD K b) (hR : cGr G b nv g) (hg : gW nv g) (d : Nat) (x : Int32) : mg_m K (d + 1) 8 [.ref b, .int x] G (mg_v (.int (a_sum (fun i => if Int32.ofNat (gL g (i + 2)) = x then 1 else 0) (gN g - 2))) G) := by
  have h9 := hg.2.1
  have h0 := hg.1
  refine mg_me [4] 10 my_8 ms_8 (Nat.le_of_ble_eq_true rfl) ?_
  refine mg_loop (gN g - 2) (fun k L G' => L = [some (.ref b), some (.int x), some (.int (a_sum (fun i => if Int32.ofNat (gL g (i + 2)) = x then 1 else 0) k)), some (.int (Int32.ofNat (k + 2)))] ∧ G' = G) ?_ ?_ _ _ ⟨rfl, rfl⟩
  · rintro k L G' hk2 ⟨rfl, rfl⟩ ih
    refine mg_go [4] 60 4 ms_8 ?_
    refine ⟨_, H.no hR.1, fun h => absurd h (mg_nle (by omega) (by omega)), fun _ => ⟨_, H.lv, 628, _, k + 2, H.A3, mg_ixN (by omega), by omega, ?_⟩⟩
    rw [hR.2.2.1 (k + 2) (by omega)]
    refine ⟨fun h => ih _ _ ⟨?_, rfl⟩, fun h => ih _ _ ⟨?_, rfl⟩⟩
    · rw [← mg_inc (k + 2)]
      show (_ : mm_L) = [_, _, some (.int (a_sum (fun i => if Int32.ofNat (gL g (i + 2)) = x then 1 else 0) k + (if Int32.ofNat (gL g (k + 2)) = x then 1 else 0))), _]
      rw [if_neg h, Int32.add_zero]
    · rw [← mg_inc (k + 2)]
      show (_ : mm_L) = [_, _, some (.int (a_sum (fun i => if Int32.ofNat (gL g (i + 2)) = x then 1 else 0) k + (if Int32.ofNat (gL g (k + 2)) = x then 1 else 0))), _]
      rw [if_pos h]
      rfl
  · rintro L G' ⟨rfl, rfl⟩
    refine mg_go [4] 60 4 ms_8 ?_
    refine ⟨_, H.no hR.1, fun _ => ⟨Or.inl rfl, rfl, rfl, rfl⟩, fun h => absurd h (mg_nlt (by omega) (by omega))⟩
theorem c12 (H : kD K b) (hR : cGr G b nv g) (hg : gW nv g) (d : Nat) (x : Int32) : mg_m K (d + 1) 12 [.ref b, .int x] G (mg_v (.int (a_sum (fun i => if Int32.ofNat (gO g (i + 2)) = x ∨ Int32.ofNat (gH g (i + 2)) = x then 1 else 0) (gN g - 2))) G) := by
  have h9 := hg.2.1
  have h0 := hg.1
  refine mg_me [4] 10 my_12 ms_12 (Nat.le_of_ble_eq_true rfl) ?_
  refine mg_loop (gN g - 2) (fun k L G' => L = [some (.ref b), some (.int x), some (.int (a_sum (fun i => if Int32.ofNat (gO g (i + 2)) = x ∨ Int32.ofNat (gH g (i + 2)) = x then 1 else 0) k)), some (.int (Int32.ofNat (k + 2)))] ∧ G' = G) ?_ ?_ _ _ ⟨rfl, rfl⟩
  · rintro k L G' hk2 ⟨rfl, rfl⟩ ih
    obtain ⟨e2, e3⟩ := hR.2.2.2.2 (k + 2) (by omega) (by omega)
    have yes : (Int32.ofNat (gO g (k + 2)) = x ∨ Int32.ofNat (gH g (k + 2)) = x) → mg_wp K mc_12 d 4 [some (.ref b), some (.int x), some (.int (a_sum (fun i => if Int32.ofNat (gO g (i + 2)) = x ∨ Int32.ofNat (gH g (i + 2)) = x then 1 else 0) k + Int32.ofInt 1)), some (.int (Int32.ofNat (k + 2) + Int32.ofInt 1))] [] G' (mg_v (.int (a_sum (fun i => if Int32.ofNat (gO g (i + 2)) = x ∨ Int32.ofNat (gH g (i + 2)) = x then 1 else 0) (gN g - 2))) G') := fun h => ih _ _ ⟨by
      rw [← mg_inc (k + 2)]
      show (_ : mm_L) = [_, _, some (.int (a_sum (fun i => if Int32.ofNat (gO g (i + 2)) = x ∨ Int32.ofNat (gH g (i + 2)) = x then 1 else 0) k + (if Int32.ofNat (gO g (k + 2)) = x ∨ Int32.ofNat (gH g (k + 2)) = x then 1 else 0))), _]
      rw [if_pos h] <;> rfl, rfl⟩
    refine mg_go [4] 60 4 ms_12 ?_
    refine ⟨_, H.no hR.1, fun h => absurd h (mg_nle (by omega) (by omega)), fun _ => ⟨_, H.lo, 628, _, k + 2, H.A4, mg_ixN (by omega), by omega, ?_⟩⟩
    rw [e2]
    refine ⟨fun h => yes (Or.inl h), fun h => ⟨_, H.hi, 628, _, k + 2, H.A5, mg_ixN (by omega), by omega, ?_⟩⟩
    rw [e3]
    refine ⟨fun h3 => ih _ _ ⟨?_, rfl⟩, fun h3 => yes (Or.inr h3)⟩
    rw [← mg_inc (k + 2)]
    show (_ : mm_L) = [_, _, some (.int (a_sum (fun i => if Int32.ofNat (gO g (i + 2)) = x ∨ Int32.ofNat (gH g (i + 2)) = x then 1 else 0) k + (if Int32.ofNat (gO g (k + 2)) = x ∨ Int32.ofNat (gH g (k + 2)) = x then 1 else 0))), _]
    rw [if_neg (fun q => q.elim h h3), Int32.add_zero]
  · rintro L G' ⟨rfl, rfl⟩
    refine mg_go [4] 60 4 ms_12 ?_
    refine ⟨_, H.no hR.1, fun _ => ⟨Or.inl rfl, rfl, rfl, rfl⟩, fun h => absurd h (mg_nlt (by omega) (by omega))⟩
theorem c10 (H : kD K b) (hR : cGr G b nv g) (hg : gW nv g) (d : Nat) (x : Int32) : mg_m K (d + 1) 10 [.ref b, .int x] G (mg_v (.int (a_sum (fun i => if G.1 (b + 6) (i + 2) &&& x = x then 1 else 0) (gN g - 2))) G) := by
  have h9 := hg.2.1
  have h0 := hg.1
  refine mg_me [4] 10 my_10 ms_10 (Nat.le_of_ble_eq_true rfl) ?_
  refine mg_loop (gN g - 2) (fun k L G' => L = [some (.ref b), some (.int x), some (.int (a_sum (fun i => if G.1 (b + 6) (i + 2) &&& x = x then 1 else 0) k)), some (.int (Int32.ofNat (k + 2)))] ∧ G' = G) ?_ ?_ _ _ ⟨rfl, rfl⟩
  · rintro k L G' hk2 ⟨rfl, rfl⟩ ih
    refine mg_go [4] 60 4 ms_10 ?_
    refine ⟨_, H.no hR.1, fun h => absurd h (mg_nle (by omega) (by omega)), fun _ => ⟨_, H.rb, 628, _, k + 2, H.A6, mg_ixN (by omega), by omega, ?_⟩⟩
    refine ⟨fun h => ih _ _ ⟨?_, rfl⟩, fun h => ih _ _ ⟨?_, rfl⟩⟩
    · rw [← mg_inc (k + 2)]
      show (_ : mm_L) = [_, _, some (.int (a_sum (fun i => if G'.1 (b + 6) (i + 2) &&& x = x then 1 else 0) k + (if G'.1 (b + 6) (k + 2) &&& x = x then 1 else 0))), _]
      rw [if_neg h, Int32.add_zero]
    · rw [← mg_inc (k + 2)]
      show (_ : mm_L) = [_, _, some (.int (a_sum (fun i => if G'.1 (b + 6) (i + 2) &&& x = x then 1 else 0) k + (if G'.1 (b + 6) (k + 2) &&& x = x then 1 else 0))), _]
      rw [if_pos h]
      rfl
  · rintro L G' ⟨rfl, rfl⟩
    refine mg_go [4] 60 4 ms_10 ?_
    refine ⟨_, H.no hR.1, fun _ => ⟨Or.inl rfl, rfl, rfl, rfl⟩, fun h => absurd h (mg_nlt (by omega) (by omega))⟩
theorem c13 (H : kD K b) (d nf : Nat) (hnf : G.2.2.2.2 b 9 = .int (Int32.ofNat nf)) (h12 : nf ≤ 12) (x : Int32) : mg_m K (d + 1) 13 [.ref b, .int x] G (mg_v (.int (a_sum (fun f => if G.1 (b + 7) f = x then 1 else 0) nf)) G) := by
  refine mg_me [4] 10 my_13 ms_13 (Nat.le_of_ble_eq_true rfl) ?_
  refine mg_loop nf (fun k L G' => L = [some (.ref b), some (.int x), some (.int (a_sum (fun f => if G.1 (b + 7) f = x then 1 else 0) k)), some (.int (Int32.ofNat k))] ∧ G' = G) ?_ ?_ _ _ ⟨rfl, rfl⟩
  · rintro k L G' hk2 ⟨rfl, rfl⟩ ih
    refine mg_go [4] 60 4 ms_13 ?_
    refine ⟨_, H.fn hnf, fun h => absurd h (mg_nle (by omega) (by omega)), fun _ => ⟨_, H.ro, 12, _, k, H.A7, mg_ixN (by omega), by omega, ?_⟩⟩
    refine ⟨fun h => ih _ _ ⟨?_, rfl⟩, fun h => ih _ _ ⟨?_, rfl⟩⟩
    · rw [← mg_inc k]
      show (_ : mm_L) = [_, _, some (.int (a_sum (fun f => if G'.1 (b + 7) f = x then 1 else 0) k + (if G'.1 (b + 7) k = x then 1 else 0))), _]
      rw [if_neg h, Int32.add_zero]
    · rw [← mg_inc k]
      show (_ : mm_L) = [_, _, some (.int (a_sum (fun f => if G'.1 (b + 7) f = x then 1 else 0) k + (if G'.1 (b + 7) k = x then 1 else 0))), _]
      rw [if_pos h]
      rfl
  · rintro L G' ⟨rfl, rfl⟩
    refine mg_go [4] 60 4 ms_13 ?_
    refine ⟨_, H.fn hnf, fun _ => ⟨Or.inl rfl, rfl, rfl, rfl⟩, fun h => absurd h (Int32.not_lt.mpr (Int32.le_refl _))⟩
theorem c9 (H : kD K b) (hR : cGr G b nv g) (hg : gW nv g) (d : Nat) : mg_m K (d + 2) 9 [.ref b] G (mg_v (.int (a_sum (fun j => if 0 < a_sum (fun i => if Int32.ofNat (gL g (i + 2)) = Int32.ofNat j then 1 else 0) (gN g - 2) then 1 else 0) nv)) G) := by
  have h8 := hg.2.2.1
  refine mg_me [4] 10 my_9 ms_9 (Nat.le_of_ble_eq_true rfl) ?_
  refine mg_loop nv (fun k L G' => L = [some (.ref b), some (.int (a_sum (fun j => if 0 < a_sum (fun i => if Int32.ofNat (gL g (i + 2)) = Int32.ofNat j then 1 else 0) (gN g - 2) then 1 else 0) k)), some (.int (Int32.ofNat k))] ∧ G' = G) ?_ ?_ _ _ ⟨rfl, rfl⟩
  · rintro k L G' hk2 ⟨rfl, rfl⟩ ih
    refine mg_go [4] 60 4 ms_9 ?_
    refine ⟨_, H.nv hR.2.1, fun h => absurd h (mg_nle (by omega) (by omega)), fun _ => ⟨Or.inr H.is, mg_cv (c8 H hR hg d _) (by omega) ⟨fun h => ih _ _ ⟨?_, rfl⟩, fun h => ih _ _ ⟨?_, rfl⟩⟩⟩⟩
    · rw [← mg_inc k]
      show (_ : mm_L) = [_, some (.int (a_sum (fun j => if 0 < a_sum (fun i => if Int32.ofNat (gL g (i + 2)) = Int32.ofNat j then 1 else 0) (gN g - 2) then 1 else 0) k + (if 0 < a_sum (fun i => if Int32.ofNat (gL g (i + 2)) = Int32.ofNat k then 1 else 0) (gN g - 2) then 1 else 0))), _]
      rw [if_neg (Int32.not_lt.mpr h), Int32.add_zero]
    · rw [← mg_inc k]
      show (_ : mm_L) = [_, some (.int (a_sum (fun j => if 0 < a_sum (fun i => if Int32.ofNat (gL g (i + 2)) = Int32.ofNat j then 1 else 0) (gN g - 2) then 1 else 0) k + (if 0 < a_sum (fun i => if Int32.ofNat (gL g (i + 2)) = Int32.ofNat k then 1 else 0) (gN g - 2) then 1 else 0))), _]
      rw [if_pos h]
      rfl
  · rintro L G' ⟨rfl, rfl⟩
    refine mg_go [4] 60 4 ms_9 ?_
    refine ⟨_, H.nv hR.2.1, fun _ => ⟨Or.inl rfl, rfl, rfl, rfl⟩, fun h => absurd h (Int32.not_lt.mpr (Int32.le_refl _))⟩
end CG
