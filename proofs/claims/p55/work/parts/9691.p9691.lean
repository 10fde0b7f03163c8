theorem sN_add (f g : Nat → Nat) : ∀ n, a_sN (fun i => f i + g i) n = a_sN f n + a_sN g n
  | 0 => rfl
  | n + 1 => by
    show a_sN (fun i => f i + g i) n + (f n + g n) = a_sN f n + f n + (a_sN g n + g n)
    rw [sN_add f g n]
    omega
theorem sN_0 : ∀ n, a_sN (fun _ => 0) n = 0
  | 0 => rfl
  | n + 1 => by show a_sN (fun _ => 0) n + 0 = 0; rw [sN_0 n]
theorem sN_c {f g : Nat → Nat} : ∀ n, (∀ i, i < n → f i = g i) → a_sN f n = a_sN g n
  | 0, _ => rfl
  | n + 1, h => by
    show a_sN f n + f n = a_sN g n + g n
    rw [sN_c n (fun i hi => h i (by omega)), h n (Nat.lt_succ_self n)]
theorem sN_ex (f : Nat → Nat → Nat) (m : Nat) : ∀ n, a_sN (fun i => a_sN (fun j => f i j) m) n = a_sN (fun j => a_sN (fun i => f i j) n) m
  | 0 => (sN_0 m).symm
  | n + 1 => by
    show a_sN (fun i => a_sN (fun j => f i j) m) n + a_sN (fun j => f n j) m = a_sN (fun j => a_sN (fun i => f i j) n + f n j) m
    rw [sN_ex f m n, sN_add]
theorem sN_none {p : Nat → Prop} [DecidablePred p] {x : Nat} : ∀ n, (∀ j, j < n → ¬ p j) → a_sN (fun j => if p j then x else 0) n = 0
  | 0, _ => rfl
  | n + 1, h => by
    show a_sN (fun j => if p j then x else 0) n + (if p n then x else 0) = 0
    rw [sN_none n (fun j hj => h j (by omega)), if_neg (h n (Nat.lt_succ_self n))]
theorem sN_one {p : Nat → Prop} [DecidablePred p] {x j : Nat} : ∀ n, j < n → p j → (∀ i, i < n → p i → i = j) → a_sN (fun j => if p j then x else 0) n = x
  | 0, h, _, _ => absurd h (Nat.not_lt_zero j)
  | n + 1, h, hp, hu => by
    show a_sN (fun j => if p j then x else 0) n + (if p n then x else 0) = x
    by_cases e : j = n
    · subst e
      rw [sN_none j (fun i hi q => by have := hu i (by omega) q; omega), if_pos hp, Nat.zero_add]
    · rw [sN_one n (by omega) hp (fun i hi => hu i (by omega)), if_neg (fun q => e (hu n (Nat.lt_succ_self n) q).symm), Nat.add_zero]
/-- a sum over a permutation -/
theorem sN_pm {ord : Nat → Nat} {nv : Nat} (ho : aO ord nv) (f : Nat → Nat) : a_sN (fun j => f (ord j)) nv = a_sN f nv := by
  have e1 : a_sN (fun j => f (ord j)) nv = a_sN (fun j => a_sN (fun v => if ord j = v then f v else 0) nv) nv := sN_c nv fun j hj => by
    have : a_sN (fun v => if ord j = v then f v else 0) nv = a_sN (fun v => if ord j = v then f (ord j) else 0) nv := sN_c nv fun v _ => by
      by_cases e : ord j = v
      · rw [if_pos e, if_pos e, e]
      · rw [if_neg e, if_neg e]
    rw [this, sN_one (p := fun v => ord j = v) nv (ho.1 j hj) rfl (fun i _ h => h.symm)]
  rw [e1, sN_ex]
  refine sN_c nv fun v hv => ?_
  obtain ⟨j, hj, e⟩ := ho.2.1 v hv
  exact sN_one (p := fun i => ord i = v) nv hj e (fun i hi h => ho.2.2.1 i j hi hj (h.trans e.symm))
theorem a_nb_sN (P : Nat → Bool) : ∀ n, a_nb P n = a_sN (fun k => if P k then 1 else 0) n
  | 0 => rfl
  | n + 1 => by
    show a_nb P n + _ = a_sN _ n + _
    rw [a_nb_sN P n]
theorem a_nb_pm {ord : Nat → Nat} {nv : Nat} (ho : aO ord nv) (P : Nat → Bool) : a_nb (fun j => P (ord j)) nv = a_nb P nv := by
  rw [a_nb_sN, a_nb_sN]
  exact sN_pm ho (fun k => if P k then 1 else 0)
theorem a_lvl_aD {A : a_A} (hW : aW A) {l : Nat} (hl : l < aV A) : a_lvl A (aD A l) = l := by
  obtain ⟨h1, h2, -⟩ := a_lvl_at hW (hW.2.1.1 l hl)
  exact hW.2.1.2.2.1 _ _ h1 hl h2
/-- levels at which a node tests: as many as variables that are tested -/
theorem a_used {A : a_A} (hW : aW A) (hg : gW (aV A) (aG A)) : a_sum (fun j => if 0 < a_sum (fun i => if Int32.ofNat (gL (aG A) (i + 2)) = Int32.ofNat j then (1 : Int32) else 0) (gN (aG A) - 2) then (1 : Int32) else 0) (aV A) = a_sum (fun v => if 0 < a_ts A v then 1 else 0) (aV A) := by
  have e1 : a_sum (fun j => if 0 < a_sum (fun i => if Int32.ofNat (gL (aG A) (i + 2)) = Int32.ofNat j then (1 : Int32) else 0) (gN (aG A) - 2) then (1 : Int32) else 0) (aV A) = a_sum (fun j => if (fun v => decide (0 < a_ts A v)) (aD A j) then (1 : Int32) else 0) (aV A) := a_sum_c fun j hj => by
    have := a_ts_lv hW hg (hW.2.1.1 j hj)
    rw [a_lvl_aD hW hj] at this
    rw [this]
    simp only [decide_eq_true_eq]
  have e2 : a_sum (fun v => if 0 < a_ts A v then (1 : Int32) else 0) (aV A) = a_sum (fun j => if (fun v => decide (0 < a_ts A v)) j then (1 : Int32) else 0) (aV A) := a_sum_c fun j _ => by simp only [decide_eq_true_eq]
  rw [e1, e2, a_nb_e (fun j => (fun v => decide (0 < a_ts A v)) (aD A j)), a_nb_e]
  exact congrArg Int32.ofNat (a_nb_pm hW.2.1 (fun v => decide (0 < a_ts A v)))
theorem a_bt_1 (x : Int32) (q : Nat) (hq : q < 32) : x &&& a_bq q = a_bq q ↔ a_bt x q = true := by
  constructor
  · intro h
    have := a_bt_and x (a_bq q) q
    rw [h, a_bt_bq q q hq, decide_eq_true rfl, Bool.and_true] at this
    exact this.symm
  · intro h
    refine a_bt_ext fun r hr => ?_
    rw [a_bt_and, a_bt_bq q r hr]
    by_cases e : q = r
    · subst e
      rw [h, Bool.true_and]
    · rw [decide_eq_false e, Bool.and_false]
theorem a_bc_n1 : ∀ a, a < 64 → ∀ b, b < 64 → a_bc (Int32.ofNat (64 * a + b)) = a_sum (fun r => b2 ((64 * a + b).testBit r)) 12 := by decide +kernel
theorem a_bc_n (n : Nat) (h : n < 4096) : a_bc (Int32.ofNat n) = a_sum (fun r => b2 (n.testBit r)) 12 := by
  have := a_bc_n1 (n / 64) (by omega) (n % 64) (by omega)
  rwa [show 64 * (n / 64) + n % 64 = n by omega] at this
theorem a_sum_z {f : Nat → Int32} {n : Nat} : ∀ m, (∀ k, n ≤ k → f k = 0) → a_sum f (n + m) = a_sum f n
  | 0, _ => rfl
  | m + 1, h => by
    show a_sum f (n + m) + f (n + m) = _
    rw [a_sum_z m h, h _ (Nat.le_add_right n m), Int32.add_zero]
/-- the bits that say which functions reach a node, counted -/
theorem a_bc_b (x : Int32) (P : Nat → Bool) {nf : Nat} (h12 : nf ≤ 12) (h : ∀ r, r < 32 → a_bt x r = (decide (r < nf) && P r)) : a_bc x = a_sum (fun f => b2 (P f)) nf := by
  have e1 : x = Int32.ofNat (x.toBitVec.toNat % 4096) := by
    refine a_bt_ext fun r hr => ?_
    have e2 : a_bt (Int32.ofNat (x.toBitVec.toNat % 4096)) r = (x.toBitVec.toNat % 4096).testBit r := by
      show (Int32.ofNat _).toBitVec.getLsbD r = _
      rw [Int32.toBitVec_ofNat', BitVec.getLsbD_ofNat]
      simp [hr]
    rw [e2, show (4096 : Nat) = 2 ^ 12 from by decide, Nat.testBit_mod_two_pow]
    show x.toBitVec.toNat.testBit r = _
    by_cases q : r < 12
    · rw [decide_eq_true q, Bool.true_and]
    · rw [decide_eq_false q, Bool.false_and]
      have := h r hr
      rw [decide_eq_false (show ¬ r < nf by omega), Bool.false_and] at this
      exact this
  have hm : x.toBitVec.toNat % 4096 < 4096 := Nat.mod_lt _ (by decide)
  generalize x.toBitVec.toNat % 4096 = m at e1 hm
  rw [e1, a_bc_n m hm]
  have hb : ∀ r, r < 32 → m.testBit r = (decide (r < nf) && P r) := fun r hr => by
    rw [← h r hr, e1]
    show _ = (Int32.ofNat m).toBitVec.getLsbD r
    rw [Int32.toBitVec_ofNat', BitVec.getLsbD_ofNat]
    simp [hr]
  have e3 : a_sum (fun r => b2 (m.testBit r)) 12 = a_sum (fun r => if r < nf then b2 (P r) else 0) 12 := a_sum_c fun r hr => by
    rw [hb r (by omega)]
    by_cases q : r < nf
    · rw [decide_eq_true q, Bool.true_and, if_pos q]
    · rw [decide_eq_false q, Bool.false_and, if_neg q]
      rfl
  rw [e3, show (12 : Nat) = nf + (12 - nf) by omega, a_sum_z _ (fun k hk => if_neg (by omega))]
  exact a_sum_c fun r hr => if_pos hr
section KC
variable {scr : Nat × (Nat → Int32)} {t : List mg_S} {G : mg_G} {S : a_S} {A : a_A}
theorem cDA.rt (h : cDA G A) {f : Nat} (hf : f < aF A) : aR A f < gN (aG A) := a_nd_lt (h.2.2.2.1 f hf).2
theorem c11 (d : Nat) (h : cDA G A) (hW : aW A) {k : Nat} (hk : k < gN (aG A)) : mg_m (mg_KC scr t) (d + 1) 11 [.ref 122, .int (Int32.ofNat k)] G (mg_v (.int (if k < 2 then Int32.ofInt (-1) else Int32.ofNat (aD A (gL (aG A) k)))) G) := by
  obtain ⟨hR, hg, -, -, hod, -, -⟩ := h
  have h9 := hg.2.1
  have h8 : aV A ≤ 8 := hW.2.1.2.2.2
  have hle := hg.le hk
  refine mg_me [] 60 my_11 ms_11 (Nat.le_of_ble_eq_true rfl) ?_
  repeat (first | refine ⟨_, mg_Fs rfl rfl, ?_⟩ | refine ⟨Or.inl rfl, ?_⟩ | refine ⟨Or.inr ⟨_, rfl⟩, ?_⟩ | refine ⟨fun _ => ?_, fun h => absurd h (by decide)⟩ | refine ⟨fun h => absurd h (by decide), fun _ => ?_⟩)
  refine ⟨_, _, k, mg_Ai rfl (by decide), mg_ixN (by omega), by omega, ?_⟩
  rw [show G.1 125 k = Int32.ofNat (gL (aG A) k) from hR.2.2.1 k hk]
  refine ⟨_, mg_Fe hR.2.1 rfl rfl, fun h => ?_, fun h => ?_⟩
  · have h := (mg_leN (by omega) (by omega)).mp h
    have h2 : k < 2 := Decidable.byContradiction fun q => by
      have := (hg.2.2.2.2 k (by omega) hk).1
      omega
    rw [if_pos h2]
    exact ⟨Or.inl rfl, rfl, rfl, rfl⟩
  · have h := (mg_ltN (by omega) (by omega)).mp h
    rw [if_neg (show ¬ k < 2 from fun q => by have := hg.2.2.2.1 k q; omega)]
    repeat (first | refine ⟨_, mg_Fs rfl rfl, ?_⟩ | refine ⟨Or.inl rfl, ?_⟩ | refine ⟨Or.inr ⟨_, rfl⟩, ?_⟩ | refine ⟨fun _ => ?_, fun h => absurd h (by decide)⟩ | refine ⟨fun h => absurd h (by decide), fun _ => ?_⟩)
    refine ⟨_, _, k, mg_Ai rfl (by decide), mg_ixN (by omega), by omega, ?_⟩
    rw [show G.1 125 k = Int32.ofNat (gL (aG A) k) from hR.2.2.1 k hk]
    refine ⟨_, _, gL (aG A) k, mg_Ai rfl (by decide), mg_ixN (by omega), by omega, Or.inl rfl, ?_, rfl, rfl⟩
    rw [show G.1 130 (gL (aG A) k) = Int32.ofNat (aD A (gL (aG A) k)) from hod _ h]
end KC
