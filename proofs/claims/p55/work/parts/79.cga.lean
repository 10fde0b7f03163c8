def cGr (G : mg_G) (b : Nat) (nv : Nat) (g : a_Gr) : Prop := G.2.2.2.2 b 12 = .int (Int32.ofNat (gN g)) ∧ G.2.2.2.2 b 10 = .int (Int32.ofNat nv) ∧ (∀ k, k < gN g → G.1 (b + 3) k = Int32.ofNat (gL g k)) ∧ (∀ k, k < 2 → G.1 (b + 4) k = Int32.ofInt (-1) ∧ G.1 (b + 5) k = Int32.ofInt (-1)) ∧ ∀ k, 2 ≤ k → k < gN g → G.1 (b + 4) k = Int32.ofNat (gO g k) ∧ G.1 (b + 5) k = Int32.ofNat (gH g k)
theorem cDr.gr {G : mg_G} {b : Nat} {ord : Nat → Nat} {nv nf n f : Nat} {tb : Nat → a_T} (h : cDr G b ord nv nf n tb f) (hv : G.2.2.2.2 b 10 = .int (Int32.ofNat nv)) : cGr G b nv (a_gr ord nv (a_all ord nv tb f)) := by
  obtain ⟨h2, -, h4, h5, -⟩ := h
  have inn : ∀ k, 2 ≤ k → k < (a_all ord nv tb f).length + 2 → G.1 (b + 3) k = Int32.ofNat (gL (a_gr ord nv (a_all ord nv tb f)) k) ∧ G.1 (b + 4) k = Int32.ofNat (gO (a_gr ord nv (a_all ord nv tb f)) k) ∧ G.1 (b + 5) k = Int32.ofNat (gH (a_gr ord nv (a_all ord nv tb f)) k) := fun k hk hl => by
    obtain ⟨T, kl, kh, e, h6, e1, e2, h7, e3, h8⟩ := h4 (k - 2) (by omega)
    rw [show k - 2 + 2 = k by omega] at e1 e2 e3
    obtain ⟨g1, g2, g3⟩ := a_gr_at (ord := ord) (nv := nv) (a_all_nd ord nv tb f) (a_all_nl ord nv tb f) hk e
    rw [g1, g2 kl h7, g3 kh h8]
    exact ⟨e1, e2, e3⟩
  refine ⟨h2.1, hv, fun k hk => ?_, fun k hk => (h5 k hk).2, fun k hk hl => (inn k hk hl).2⟩
  by_cases h2 : 2 ≤ k
  · exact (inn k h2 hk).1
  · show _ = Int32.ofNat (if 2 ≤ k ∧ k < (a_all ord nv tb f).length + 2 then _ else nv)
    rw [if_neg (fun q => h2 q.1)]
    exact (h5 k (by omega)).1
theorem cDr.cl {G : mg_G} {b : Nat} {ord : Nat → Nat} {nv nf n f : Nat} {tb : Nat → a_T} (h : cDr G b ord nv nf n tb f) : aCl ord nv (a_all ord nv tb f) := fun i hi => by
  obtain ⟨T, kl, kh, e, h6, -, -, h7, -, h8⟩ := h.2.2.1 i hi
  exact ⟨T, kl, kh, e, h6, h7, h8⟩
def a_bq (q : Nat) : Int32 := Int32.ofBitVec (BitVec.twoPow 32 q)
theorem mg_bq : ∀ q, q < 12 → (1 : Int32) <<< (Int32.ofNat q &&& 31) = a_bq q := by decide +kernel
def a_bt (x : Int32) (q : Nat) : Bool := x.toBitVec.getLsbD q
theorem a_bt_or (x y : Int32) (q : Nat) : a_bt (x ||| y) q = (a_bt x q || a_bt y q) := by
  show (x.toBitVec ||| y.toBitVec).getLsbD q = _
  rw [BitVec.getLsbD_or]
  rfl
theorem a_bt_and (x y : Int32) (q : Nat) : a_bt (x &&& y) q = (a_bt x q && a_bt y q) := by
  show (x.toBitVec &&& y.toBitVec).getLsbD q = _
  rw [BitVec.getLsbD_and]
  rfl
theorem a_bt_bq (q r : Nat) (hr : r < 32) : a_bt (a_bq q) r = decide (q = r) := by
  show (BitVec.twoPow 32 q).getLsbD r = _
  rw [BitVec.getLsbD_twoPow]
  by_cases e : q = r
  · subst e
    rw [decide_eq_true hr, Bool.true_and]
  · rw [decide_eq_false e, Bool.and_false]
theorem a_bt_ext {x y : Int32} (h : ∀ r, r < 32 → a_bt x r = a_bt y r) : x = y := Int32.toBitVec_inj.mp (BitVec.eq_of_getLsbD_eq h)
theorem a_bt_0 (x : Int32) (q : Nat) (hq : q < 32) : x &&& a_bq q = 0 ↔ a_bt x q = false := by
  constructor
  · intro h
    have := a_bt_and x (a_bq q) q
    rw [h, a_bt_bq q q hq, decide_eq_true rfl, Bool.and_true] at this
    rw [← this]
    show (0#32).getLsbD q = false
    simp
  · intro h
    refine a_bt_ext fun r hr => ?_
    rw [a_bt_and, a_bt_bq q r hr]
    by_cases e : q = r
    · subst e
      rw [h, Bool.false_and]
      show _ = (0#32).getLsbD q
      simp
    · rw [decide_eq_false e, Bool.and_false]
      show _ = (0#32).getLsbD r
      simp
theorem a_bt_oq (x : Int32) (q r : Nat) (hr : r < 32) : a_bt (x ||| a_bq q) r = (a_bt x r || decide (q = r)) := by rw [a_bt_or, a_bt_bq q r hr]
/-- what the marks with bit q come to -/
def gMq (g : a_Gr) (f f' : Nat → Int32) (q : Nat) (M : Nat → Bool) : Prop := ∀ y, y < gN g → ∀ r, r < 32 → a_bt (f' y) r = (a_bt (f y) r || (decide (q = r) && M y))
section CG
variable {K : mg_K} {b : Nat} {G : mg_G} {nv : Nat} {g : a_Gr}
theorem c8 (H : kD K b) (hR : cGr G b nv g) (hg : gW nv g) (d : Nat) (x : Int32) : mg_m K (d + 1) 8 [.ref b, .int x] G (mg_v (.int (a_sum (fun i => if Int32.ofNat (gL g (i + 2)) = x then 1 else 0) (gN g - 2))) G) := by
  have h9 := hg.2.1
  have h0 := hg.1
  refine mg_me [4] 10 my_8 ms_8 (Nat.le_of_ble_eq_true rfl) ?_
  refine mg_loop (gN g - 2) (fun k L G' => L = [some (.ref b), some (.int x), some (.int (a_sum (fun i => if Int32.ofNat (gL g (i + 2)) = x then 1 else 0) k)), some (.int (Int32.ofNat (k + 2)))] ∧ G' = G) ?_ ?_ _ _ ⟨rfl, rfl⟩
  · rintro k L G' hk2 ⟨rfl, rfl⟩ ih
    refine mg_go [4] 60 4 ms_8 ?_
    refine ⟨_, H.no hR.1, fun h => absurd h (mg_nle (by omega) (by omega)), fun _ => ⟨_, H.lv, 628, _, k + 2, H.A3, mg_ixN (by omega), by omega, ?_⟩⟩
    rw [hR.2.2.1 (k + 2) (by omega)]
    refine ⟨fun h => ih _ _ ⟨?_, rfl⟩, fun h => ih _ _ ⟨?_, rfl⟩⟩
    · rw [← mg_inc (k + 2)]
      show (_ : mm_L) = [_, _, some (.int (a_sum (fun i => if Int32.ofNat (gL g (i + 2)) = x then 1 else 0) k + (if Int32.ofNat (gL g (k + 2)) = x then 1 else 0))), _]
      rw [if_neg h, Int32.add_zero]
    · rw [← mg_inc (k + 2)]
      show (_ : mm_L) = [_, _, some (.int (a_sum (fun i => if Int32.ofNat (gL g (i + 2)) = x then 1 else 0) k + (if Int32.ofNat (gL g (k + 2)) = x then 1 else 0))), _]
      rw [if_pos h]
      rfl
  · rintro L G' ⟨rfl, rfl⟩
    refine mg_go [4] 60 4 ms_8 ?_
    refine ⟨_, H.no hR.1, fun _ => ⟨Or.inl rfl, rfl, rfl, rfl⟩, fun h => absurd h (mg_nlt (by omega) (by omega))⟩
theorem c12 (H : kD K b) (hR : cGr G b nv g) (hg : gW nv g) (d : Nat) (x : Int32) : mg_m K (d + 1) 12 [.ref b, .int x] G (mg_v (.int (a_sum (fun i => if Int32.ofNat (gO g (i + 2)) = x ∨ Int32.ofNat (gH g (i + 2)) = x then 1 else 0) (gN g - 2))) G) := by
  have h9 := hg.2.1
  have h0 := hg.1
  refine mg_me [4] 10 my_12 ms_12 (Nat.le_of_ble_eq_true rfl) ?_
  refine mg_loop (gN g - 2) (fun k L G' => L = [some (.ref b), some (.int x), some (.int (a_sum (fun i => if Int32.ofNat (gO g (i + 2)) = x ∨ Int32.ofNat (gH g (i + 2)) = x then 1 else 0) k)), some (.int (Int32.ofNat (k + 2)))] ∧ G' = G) ?_ ?_ _ _ ⟨rfl, rfl⟩
  · rintro k L G' hk2 ⟨rfl, rfl⟩ ih
    obtain ⟨e2, e3⟩ := hR.2.2.2.2 (k + 2) (by omega) (by omega)
    have yes : (Int32.ofNat (gO g (k + 2)) = x ∨ Int32.ofNat (gH g (k + 2)) = x) → mg_wp K mc_12 d 4 [some (.ref b), some (.int x), some (.int (a_sum (fun i => if Int32.ofNat (gO g (i + 2)) = x ∨ Int32.ofNat (gH g (i + 2)) = x then 1 else 0) k + Int32.ofInt 1)), some (.int (Int32.ofNat (k + 2) + Int32.ofInt 1))] [] G' (mg_v (.int (a_sum (fun i => if Int32.ofNat (gO g (i + 2)) = x ∨ Int32.ofNat (gH g (i + 2)) = x then 1 else 0) (gN g - 2))) G') := fun h => ih _ _ ⟨by
      rw [← mg_inc (k + 2)]
      show (_ : mm_L) = [_, _, some (.int (a_sum (fun i => if Int32.ofNat (gO g (i + 2)) = x ∨ Int32.ofNat (gH g (i + 2)) = x then 1 else 0) k + (if Int32.ofNat (gO g (k + 2)) = x ∨ Int32.ofNat (gH g (k + 2)) = x then 1 else 0))), _]
      rw [if_pos h] <;> rfl, rfl⟩
    refine mg_go [4] 60 4 ms_12 ?_
    refine ⟨_, H.no hR.1, fun h => absurd h (mg_nle (by omega) (by omega)), fun _ => ⟨_, H.lo, 628, _, k + 2, H.A4, mg_ixN (by omega), by omega, ?_⟩⟩
    rw [e2]
    refine ⟨fun h => yes (Or.inl h), fun h => ⟨_, H.hi, 628, _, k + 2, H.A5, mg_ixN (by omega), by omega, ?_⟩⟩
    rw [e3]
    refine ⟨fun h3 => ih _ _ ⟨?_, rfl⟩, fun h3 => yes (Or.inr h3)⟩
    rw [← mg_inc (k + 2)]
    show (_ : mm_L) = [_, _, some (.int (a_sum (fun i => if Int32.ofNat (gO g (i + 2)) = x ∨ Int32.ofNat (gH g (i + 2)) = x then 1 else 0) k + (if Int32.ofNat (gO g (k + 2)) = x ∨ Int32.ofNat (gH g (k + 2)) = x then 1 else 0))), _]
    rw [if_neg (fun q => q.elim h h3), Int32.add_zero]
  · rintro L G' ⟨rfl, rfl⟩
    refine mg_go [4] 60 4 ms_12 ?_
    refine ⟨_, H.no hR.1, fun _ => ⟨Or.inl rfl, rfl, rfl, rfl⟩, fun h => absurd h (mg_nlt (by omega) (by omega))⟩
theorem c10 (H : kD K b) (hR : cGr G b nv g) (hg : gW nv g) (d : Nat) (x : Int32) : mg_m K (d + 1) 10 [.ref b, .int x] G (mg_v (.int (a_sum (fun i => if G.1 (b + 6) (i + 2) &&& x = x then 1 else 0) (gN g - 2))) G) := by
  have h9 := hg.2.1
  have h0 := hg.1
  refine mg_me [4] 10 my_10 ms_10 (Nat.le_of_ble_eq_true rfl) ?_
  refine mg_loop (gN g - 2) (fun k L G' => L = [some (.ref b), some (.int x), some (.int (a_sum (fun i => if G.1 (b + 6) (i + 2) &&& x = x then 1 else 0) k)), some (.int (Int32.ofNat (k + 2)))] ∧ G' = G) ?_ ?_ _ _ ⟨rfl, rfl⟩
  · rintro k L G' hk2 ⟨rfl, rfl⟩ ih
    refine mg_go [4] 60 4 ms_10 ?_
    refine ⟨_, H.no hR.1, fun h => absurd h (mg_nle (by omega) (by omega)), fun _ => ⟨_, H.rb, 628, _, k + 2, H.A6, mg_ixN (by omega), by omega, ?_⟩⟩
    refine ⟨fun h => ih _ _ ⟨?_, rfl⟩, fun h => ih _ _ ⟨?_, rfl⟩⟩
    · rw [← mg_inc (k + 2)]
      show (_ : mm_L) = [_, _, some (.int (a_sum (fun i => if G'.1 (b + 6) (i + 2) &&& x = x then 1 else 0) k + (if G'.1 (b + 6) (k + 2) &&& x = x then 1 else 0))), _]
      rw [if_neg h, Int32.add_zero]
    · rw [← mg_inc (k + 2)]
      show (_ : mm_L) = [_, _, some (.int (a_sum (fun i => if G'.1 (b + 6) (i + 2) &&& x = x then 1 else 0) k + (if G'.1 (b + 6) (k + 2) &&& x = x then 1 else 0))), _]
      rw [if_pos h]
      rfl
  · rintro L G' ⟨rfl, rfl⟩
    refine mg_go [4] 60 4 ms_10 ?_
    refine ⟨_, H.no hR.1, fun _ => ⟨Or.inl rfl, rfl, rfl, rfl⟩, fun h => absurd h (mg_nlt (by omega) (by omega))⟩
theorem c13 (H : kD K b) (d nf : Nat) (hnf : G.2.2.2.2 b 9 = .int (Int32.ofNat nf)) (h12 : nf ≤ 12) (x : Int32) : mg_m K (d + 1) 13 [.ref b, .int x] G (mg_v (.int (a_sum (fun f => if G.1 (b + 7) f = x then 1 else 0) nf)) G) := by
  refine mg_me [4] 10 my_13 ms_13 (Nat.le_of_ble_eq_true rfl) ?_
  refine mg_loop nf (fun k L G' => L = [some (.ref b), some (.int x), some (.int (a_sum (fun f => if G.1 (b + 7) f = x then 1 else 0) k)), some (.int (Int32.ofNat k))] ∧ G' = G) ?_ ?_ _ _ ⟨rfl, rfl⟩
  · rintro k L G' hk2 ⟨rfl, rfl⟩ ih
    refine mg_go [4] 60 4 ms_13 ?_
    refine ⟨_, H.fn hnf, fun h => absurd h (mg_nle (by omega) (by omega)), fun _ => ⟨_, H.ro, 12, _, k, H.A7, mg_ixN (by omega), by omega, ?_⟩⟩
    refine ⟨fun h => ih _ _ ⟨?_, rfl⟩, fun h => ih _ _ ⟨?_, rfl⟩⟩
    · rw [← mg_inc k]
      show (_ : mm_L) = [_, _, some (.int (a_sum (fun f => if G'.1 (b + 7) f = x then 1 else 0) k + (if G'.1 (b + 7) k = x then 1 else 0))), _]
      rw [if_neg h, Int32.add_zero]
    · rw [← mg_inc k]
      show (_ : mm_L) = [_, _, some (.int (a_sum (fun f => if G'.1 (b + 7) f = x then 1 else 0) k + (if G'.1 (b + 7) k = x then 1 else 0))), _]
      rw [if_pos h]
      rfl
  · rintro L G' ⟨rfl, rfl⟩
    refine mg_go [4] 60 4 ms_13 ?_
    refine ⟨_, H.fn hnf, fun _ => ⟨Or.inl rfl, rfl, rfl, rfl⟩, fun h => absurd h (Int32.not_lt.mpr (Int32.le_refl _))⟩
theorem c9 (H : kD K b) (hR : cGr G b nv g) (hg : gW nv g) (d : Nat) : mg_m K (d + 2) 9 [.ref b] G (mg_v (.int (a_sum (fun j => if 0 < a_sum (fun i => if Int32.ofNat (gL g (i + 2)) = Int32.ofNat j then 1 else 0) (gN g - 2) then 1 else 0) nv)) G) := by
  have h8 := hg.2.2.1
  refine mg_me [4] 10 my_9 ms_9 (Nat.le_of_ble_eq_true rfl) ?_
  refine mg_loop nv (fun k L G' => L = [some (.ref b), some (.int (a_sum (fun j => if 0 < a_sum (fun i => if Int32.ofNat (gL g (i + 2)) = Int32.ofNat j then 1 else 0) (gN g - 2) then 1 else 0) k)), some (.int (Int32.ofNat k))] ∧ G' = G) ?_ ?_ _ _ ⟨rfl, rfl⟩
  · rintro k L G' hk2 ⟨rfl, rfl⟩ ih
    refine mg_go [4] 60 4 ms_9 ?_
    refine ⟨_, H.nv hR.2.1, fun h => absurd h (mg_nle (by omega) (by omega)), fun _ => ⟨Or.inr H.is, mg_cv (c8 H hR hg d _) (by omega) ⟨fun h => ih _ _ ⟨?_, rfl⟩, fun h => ih _ _ ⟨?_, rfl⟩⟩⟩⟩
    · rw [← mg_inc k]
      show (_ : mm_L) = [_, some (.int (a_sum (fun j => if 0 < a_sum (fun i => if Int32.ofNat (gL g (i + 2)) = Int32.ofNat j then 1 else 0) (gN g - 2) then 1 else 0) k + (if 0 < a_sum (fun i => if Int32.ofNat (gL g (i + 2)) = Int32.ofNat k then 1 else 0) (gN g - 2) then 1 else 0))), _]
      rw [if_neg (Int32.not_lt.mpr h), Int32.add_zero]
    · rw [← mg_inc k]
      show (_ : mm_L) = [_, some (.int (a_sum (fun j => if 0 < a_sum (fun i => if Int32.ofNat (gL g (i + 2)) = Int32.ofNat j then 1 else 0) (gN g - 2) then 1 else 0) k + (if 0 < a_sum (fun i => if Int32.ofNat (gL g (i + 2)) = Int32.ofNat k then 1 else 0) (gN g - 2) then 1 else 0))), _]
      rw [if_pos h]
      rfl
  · rintro L G' ⟨rfl, rfl⟩
    refine mg_go [4] 60 4 ms_9 ?_
    refine ⟨_, H.nv hR.2.1, fun _ => ⟨Or.inl rfl, rfl, rfl, rfl⟩, fun h => absurd h (Int32.not_lt.mpr (Int32.le_refl _))⟩
end CG
