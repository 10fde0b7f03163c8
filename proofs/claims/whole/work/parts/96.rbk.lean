/-! REFERENCE: find, chance, sizeOf -/
theorem mg_dds {K : mg_K} {c : mm_Code} {d pc len a b e1 e2 : Nat} {i : Instr} {hs : List (String × Nat × Nat × Nat)} {L : mm_L} {S r : List Value} {G : mg_G} {Q : mg_Q} (hl : c.lookup pc = some (len, 0, a, b, e1, e2, i, hs)) (e : mm_alu i S = some r) (h : mg_wp K c d (pc + len) L r G Q) : mg_wp K c d pc L S G Q :=
  mg_st0 hl (fun call ρ => by simp only [mm_step, e]) h
section RM
variable {scr : Nat × (Nat → Int32)} {t : List mg_S} {G : mg_G} {A : a_A} {S : a_S} {g : a_Gr}
theorem r265 (d : Nat) (hT : rT G S) : mg_m (mg_KM scr t) (d + 2) 265 [.ref 148] G (mg_v (.int (a_oi (a_ff (fun f => decide (aFN (sA S) f ≠ [] ∧ aFN (sA S) f = sIn S)) (aF (sA S))))) G) := by
  have hI := hT.I
  have h12 := hI.f12
  obtain ⟨h5, h6, h7⟩ := hT.2.2.2.2.1
  have e8 : ∀ a : Nat, (Int8.ofInt 90).toInt32 + (Int8.ofInt 8).toInt32 * Int32.ofNat a = Int32.ofNat (90 + 8 * a) := fun a => by rw [Int32.ofNat_add, Int32.ofNat_mul]; rfl
  have e9 : ∀ a b : Nat, (Int8.ofInt 90).toInt32 + (Int8.ofInt 8).toInt32 * Int32.ofNat a + Int32.ofInt 1 + Int32.ofNat b = Int32.ofNat (90 + 8 * a + 1 + b) := fun a b => by rw [Int32.ofNat_add, Int32.ofNat_add, e8]; rfl
  refine mg_me [2] 30 my_265 ms_265 (Nat.le_of_ble_eq_true rfl) ?_
  refine mg_loop (aF (sA S)) (fun f L G' => (∃ e2 e3, L = [some (.ref 148), some (.int (Int32.ofNat f)), e2, e3]) ∧ G' = G ∧ ∀ j, j < f → (fun f => decide (aFN (sA S) f ≠ [] ∧ aFN (sA S) f = sIn S)) j = false) ?_ ?_ _ _ ⟨⟨none, none, rfl⟩, rfl, fun j h => absurd h (Nat.not_lt_zero j)⟩
  · rintro f L G' hf ⟨⟨e2, e3, rfl⟩, rfl, hno⟩ ih
    obtain ⟨n1, n2⟩ := hI.fn hf
    obtain ⟨w1, w2⟩ := hI.W.2.2.2.2.2.1 f hf
    have no : ¬ (aFN (sA S) f ≠ [] ∧ aFN (sA S) f = sIn S) → ∀ e2 e3, mg_wp (mg_KM scr t) mc_265 (d + 1) 2 [some (.ref 148), some (.int (Int32.ofNat f + Int32.ofInt 1)), e2, e3] [] G' (mg_v (.int (a_oi (a_ff (fun f => decide (aFN (sA S) f ≠ [] ∧ aFN (sA S) f = sIn S)) (aF (sA S))))) G') := fun hp e2 e3 => ih _ _ ⟨⟨e2, e3, by rw [mg_inc f]⟩, rfl, fun j hj => by
      by_cases e : j = f
      · rw [e]; exact decide_eq_false hp
      · exact hno j (by omega)⟩
    have no2 : ¬ (aFN (sA S) f ≠ [] ∧ aFN (sA S) f = sIn S) → ∀ e3, mg_wp (mg_KM scr t) mc_265 (d + 1) 52 [some (.ref 148), some (.int (Int32.ofNat f)), some (.int 0), some (.int e3)] [] G' (mg_v (.int (a_oi (a_ff (fun f => decide (aFN (sA S) f ≠ [] ∧ aFN (sA S) f = sIn S)) (aF (sA S))))) G') := fun hp e3 => by
      refine mg_go [2] 60 52 ms_265 ?_
      repeat (first | refine ⟨_, mg_Fs rfl rfl, ?_⟩ | refine ⟨_, mg_Fd rfl rfl, ?_⟩ | refine ⟨Or.inl rfl, ?_⟩ | refine ⟨Or.inr ⟨_, rfl⟩, ?_⟩ | refine ⟨fun _ => ?_, fun h => absurd h (by decide)⟩ | refine ⟨fun h => absurd h (by decide), fun _ => ?_⟩)
      exact no hp _ _
    refine mg_go [52] 60 2 ms_265 ?_
    repeat (first | refine ⟨_, mg_Fs rfl rfl, ?_⟩ | refine ⟨_, mg_Fd rfl rfl, ?_⟩ | refine ⟨Or.inl rfl, ?_⟩ | refine ⟨Or.inr ⟨_, rfl⟩, ?_⟩ | refine ⟨fun _ => ?_, fun h => absurd h (by decide)⟩ | refine ⟨fun h => absurd h (by decide), fun _ => ?_⟩)
    refine mg_cv (r179n d hI.f) (by omega) ?_
    refine ⟨fun h => absurd h (mg_nle (by omega) (by omega)), fun _ => ?_⟩
    repeat (first | refine ⟨_, mg_Fs rfl rfl, ?_⟩ | refine ⟨_, mg_Fd rfl rfl, ?_⟩ | refine ⟨Or.inl rfl, ?_⟩ | refine ⟨Or.inr ⟨_, rfl⟩, ?_⟩ | refine ⟨fun _ => ?_, fun h => absurd h (by decide)⟩ | refine ⟨fun h => absurd h (by decide), fun _ => ?_⟩)
    refine ⟨_, _, 90 + 8 * f, mg_Ai rfl (by decide), mg_ixE (e8 f) (by omega), by omega, ?_⟩
    rw [n1]
    refine ⟨fun h => ?_, fun h => ?_⟩
    · have h := (mg_leN (b := 0) (by omega) (by decide)).mp h
      exact no2 (fun q => q.1 (List.eq_nil_of_length_eq_zero (by omega))) _
    · have h0 := (mg_ltN (a := 0) (by decide) (by omega)).mp h
      repeat (first | refine ⟨_, mg_Fs rfl rfl, ?_⟩ | refine ⟨_, mg_Fd rfl rfl, ?_⟩ | refine ⟨Or.inl rfl, ?_⟩ | refine ⟨Or.inr ⟨_, rfl⟩, ?_⟩ | refine ⟨fun _ => ?_, fun h => absurd h (by decide)⟩ | refine ⟨fun h => absurd h (by decide), fun _ => ?_⟩)
      refine ⟨_, _, 90 + 8 * f, mg_Ai rfl (by decide), mg_ixE (e8 f) (by omega), by omega, ?_⟩
      rw [n1]
      refine ⟨_, mg_Fe h5 rfl rfl, fun h => ?_, fun h => ?_⟩
      · exact no2 (fun q => h (by rw [q.2])) _
      · have hln := (mg_eqN (by omega) (by omega)).mp h
        refine mg_loop (sIn S).length (fun k L G2 => L = [some (.ref 148), some (.int (Int32.ofNat f)), some (.int 1), some (.int (Int32.ofNat k))] ∧ G2 = G' ∧ ∀ j, j < k → (aFN (sA S) f)[j]? = (sIn S)[j]?) ?_ ?_ _ _ ⟨rfl, rfl, fun j h => absurd h (Nat.not_lt_zero j)⟩
        · rintro k L G2 hk ⟨rfl, rfl, hall⟩ ih2
          obtain ⟨c1, hc1⟩ : ∃ c, (aFN (sA S) f)[k]? = some c := ⟨_, List.getElem?_eq_getElem (by omega)⟩
          obtain ⟨c2, hc2⟩ : ∃ c, (sIn S)[k]? = some c := ⟨_, List.getElem?_eq_getElem hk⟩
          have hc3 := w1 c1 (List.mem_of_getElem? hc1)
          have hc4 := h7 k c2 hc2
          refine mg_go [52] 90 52 ms_265 ?_
          refine ⟨fun h => absurd h (by decide), fun _ => ?_⟩
          refine ⟨_, mg_Fe h5 rfl rfl, fun h => absurd h (mg_nle hk (by omega)), fun _ => ?_⟩
          repeat (first | refine ⟨_, mg_Fs rfl rfl, ?_⟩ | refine ⟨_, mg_Fd rfl rfl, ?_⟩ | refine ⟨Or.inl rfl, ?_⟩ | refine ⟨Or.inr ⟨_, rfl⟩, ?_⟩ | refine ⟨fun _ => ?_, fun h => absurd h (by decide)⟩ | refine ⟨fun h => absurd h (by decide), fun _ => ?_⟩)
          refine ⟨_, _, 90 + 8 * f + 1 + k, mg_Ai rfl (by decide), mg_ixE (e9 f k) (by omega), by omega, ?_⟩
          rw [n2 k c1 hc1]
          repeat (first | refine ⟨_, mg_Fs rfl rfl, ?_⟩ | refine ⟨_, mg_Fd rfl rfl, ?_⟩ | refine ⟨Or.inl rfl, ?_⟩ | refine ⟨Or.inr ⟨_, rfl⟩, ?_⟩ | refine ⟨fun _ => ?_, fun h => absurd h (by decide)⟩ | refine ⟨fun h => absurd h (by decide), fun _ => ?_⟩)
          refine ⟨_, _, k, mg_Ai rfl (by decide), mg_ixN (by omega), by omega, ?_⟩
          rw [hc4.1]
          refine ⟨fun h => ?_, fun h => ?_⟩
          · refine no2 (fun q => ?_) _
            have := q.2
            rw [this] at hc1
            exact h (by rw [Option.some.inj (hc1.symm.trans hc2)])
          · have h := (mg_eqN (by omega) (by omega)).mp h
            refine ih2 _ _ ⟨by rw [mg_inc k] <;> rfl, rfl, fun j hj => ?_⟩
            by_cases e : j = k
            · rw [e, hc1, hc2, h]
            · exact hall j (by omega)
        · rintro L G2 ⟨rfl, rfl, hall⟩
          have heq : aFN (sA S) f = sIn S := List.ext_getElem? fun j => by
            by_cases e : j < (sIn S).length
            · exact hall j e
            · rw [List.getElem?_eq_none_iff.mpr (by omega), List.getElem?_eq_none_iff.mpr (by omega)]
          have hp : (fun f => decide (aFN (sA S) f ≠ [] ∧ aFN (sA S) f = sIn S)) f = true := decide_eq_true ⟨fun q => by rw [q] at h0; exact absurd h0 (by decide), heq⟩
          refine mg_go [] 90 52 ms_265 ?_
          refine ⟨fun h => absurd h (by decide), fun _ => ?_⟩
          refine ⟨_, mg_Fe h5 rfl rfl, fun _ => ?_, fun h => absurd h (Int32.not_lt.mpr (Int32.le_refl _))⟩
          repeat (first | refine ⟨_, mg_Fs rfl rfl, ?_⟩ | refine ⟨_, mg_Fd rfl rfl, ?_⟩ | refine ⟨Or.inl rfl, ?_⟩ | refine ⟨Or.inr ⟨_, rfl⟩, ?_⟩ | refine ⟨fun _ => ?_, fun h => absurd h (by decide)⟩ | refine ⟨fun h => absurd h (by decide), fun _ => ?_⟩)
          exact ⟨by rw [a_ff_some hf hp hno] <;> rfl, rfl, rfl⟩
  · rintro L G' ⟨⟨e2, e3, rfl⟩, rfl, hno⟩
    refine mg_go [] 60 2 ms_265 ?_
    repeat (first | refine ⟨_, mg_Fs rfl rfl, ?_⟩ | refine ⟨_, mg_Fd rfl rfl, ?_⟩ | refine ⟨Or.inl rfl, ?_⟩ | refine ⟨Or.inr ⟨_, rfl⟩, ?_⟩ | refine ⟨fun _ => ?_, fun h => absurd h (by decide)⟩ | refine ⟨fun h => absurd h (by decide), fun _ => ?_⟩)
    refine mg_cv (r179n d hI.f) (by omega) ?_
    refine ⟨fun _ => ?_, fun h => absurd h (Int32.not_lt.mpr (Int32.le_refl _))⟩
    exact ⟨Or.inl rfl, by rw [a_ff_none hno]; rfl, rfl, rfl⟩
theorem r266 (d : Nat) (hT : rT G S) : mg_m (mg_KM scr t) (d + 3) 266 [.ref 148] G (rA G S (q266 S)) := by
  have h12 := hT.I.f12
  have h1 := r265 (scr := scr) (t := t) d hT
  unfold q266
  cases hf : a_ff (fun f => decide (aFN (sA S) f ≠ [] ∧ aFN (sA S) f = sIn S)) (aF (sA S)) with
  | none =>
    rw [hf] at h1
    refine mg_me [] 60 my_266 ms_266 (Nat.le_of_ble_eq_true rfl) ?_
    repeat (first | refine ⟨_, mg_Fs rfl rfl, ?_⟩ | refine ⟨_, mg_Fd rfl rfl, ?_⟩ | refine ⟨Or.inl rfl, ?_⟩ | refine ⟨Or.inr ⟨_, rfl⟩, ?_⟩ | refine ⟨fun _ => ?_, fun h => absurd h (by decide)⟩ | refine ⟨fun h => absurd h (by decide), fun _ => ?_⟩)
    refine mg_cv (h1) (by omega) ?_
    refine ⟨fun h => absurd rfl h, fun _ => ?_⟩
    repeat (first | refine ⟨_, mg_Fs rfl rfl, ?_⟩ | refine ⟨_, mg_Fd rfl rfl, ?_⟩ | refine ⟨Or.inl rfl, ?_⟩ | refine ⟨Or.inr ⟨_, rfl⟩, ?_⟩ | refine ⟨fun _ => ?_, fun h => absurd h (by decide)⟩ | refine ⟨fun h => absurd h (by decide), fun _ => ?_⟩)
    refine mg_cv (r176_1 d _ _) (by omega) ?_
    repeat (first | refine ⟨_, mg_Fs rfl rfl, ?_⟩ | refine ⟨_, mg_Fd rfl rfl, ?_⟩ | refine ⟨Or.inl rfl, ?_⟩ | refine ⟨Or.inr ⟨_, rfl⟩, ?_⟩ | refine ⟨fun _ => ?_, fun h => absurd h (by decide)⟩ | refine ⟨fun h => absurd h (by decide), fun _ => ?_⟩)
    exact rA_x hT rfl
  | some k =>
    have hk : k < aF (sA S) := by
      rcases a_ff_is (fun f => decide (aFN (sA S) f ≠ [] ∧ aFN (sA S) f = sIn S)) (aF (sA S)) with ⟨c, h1, h2, -, -⟩ | ⟨h1, -⟩
      · rw [h2] at hf
        have := Option.some.inj hf
        omega
      · rw [h1] at hf
        cases hf
    rw [hf] at h1
    refine mg_me [] 60 my_266 ms_266 (Nat.le_of_ble_eq_true rfl) ?_
    repeat (first | refine ⟨_, mg_Fs rfl rfl, ?_⟩ | refine ⟨_, mg_Fd rfl rfl, ?_⟩ | refine ⟨Or.inl rfl, ?_⟩ | refine ⟨Or.inr ⟨_, rfl⟩, ?_⟩ | refine ⟨fun _ => ?_, fun h => absurd h (by decide)⟩ | refine ⟨fun h => absurd h (by decide), fun _ => ?_⟩)
    refine mg_cv (h1) (by omega) ?_
    refine ⟨fun _ => ?_, fun h => absurd h (mg_n1 (by omega))⟩
    repeat (first | refine ⟨_, mg_Fs rfl rfl, ?_⟩ | refine ⟨_, mg_Fd rfl rfl, ?_⟩ | refine ⟨Or.inl rfl, ?_⟩ | refine ⟨Or.inr ⟨_, rfl⟩, ?_⟩ | refine ⟨fun _ => ?_, fun h => absurd h (by decide)⟩ | refine ⟨fun h => absurd h (by decide), fun _ => ?_⟩)
    refine mg_cv (r176_0 d) (by omega) ?_
    repeat (first | refine ⟨_, mg_Fs rfl rfl, ?_⟩ | refine ⟨_, mg_Fd rfl rfl, ?_⟩ | refine ⟨Or.inl rfl, ?_⟩ | refine ⟨Or.inr ⟨_, rfl⟩, ?_⟩ | refine ⟨fun _ => ?_, fun h => absurd h (by decide)⟩ | refine ⟨fun h => absurd h (by decide), fun _ => ?_⟩)
    exact ⟨rfl, rfl, mg_sF_at _ _ _ _, hT.s10 _, rF.s _ _ _⟩
theorem r284 (hI : rI G A) (hR : rGr G (aD A) g) (hg : gW (aV A) g) : ∀ m d k, k < gN g → m ≤ 8 → aV A ≤ gL g k + m → mg_m (mg_KM scr t) (d + m + 1) 284 [.ref 148, .int (Int32.ofNat k)] G (mg_v (.double (g_ch g (fun l => f_pc (aP A (aD A l))) m k)) G) := by
  have hP := hI.W.P
  have h9 := hg.2.1
  have h8 := hI.v8
  have leaf : ∀ d m k, k < 2 → mg_m (mg_KM scr t) (d + 1) 284 [.ref 148, .int (Int32.ofNat k)] G (mg_v (.double (g_ch g (fun l => f_pc (aP A (aD A l))) m k)) G) := fun d m k hk => by
    rw [g_ch_lf _ _ _ _ hk]
    refine mg_me [] 60 my_284 ms_284 (Nat.le_of_ble_eq_true rfl) ?_
    refine ⟨fun h => absurd h (mg_nle (b := 2) hk (by decide)), fun _ => ⟨fun h => ?_, fun h => ?_⟩⟩
    · rw [if_neg (fun q => h (by rw [q]; rfl))]
      exact ⟨rfl, rfl, rfl⟩
    · have h := (mg_eqN (b := 1) (by omega) (by decide)).mp h
      rw [if_pos h]
      exact ⟨rfl, rfl, rfl⟩
  intro m
  induction m with
  | zero =>
    intro d k hk _ hl
    refine leaf d 0 k (Decidable.byContradiction fun q => ?_)
    have := (hg.2.2.2.2 k (by omega) hk).1
    omega
  | succ m ih =>
    intro d k hk hm hl
    by_cases h2 : k < 2
    · exact leaf (d + (m + 1)) (m + 1) k h2
    · have h2 : 2 ≤ k := by omega
      obtain ⟨q1, q2, q3, q4, q5⟩ := hg.2.2.2.2 k h2 hk
      obtain ⟨e1, e2, e3⟩ := hR.2.2 k h2 hk
      have i1 := ih d _ q2 (by omega) (by omega)
      have i2 := ih d _ q3 (by omega) (by omega)
      rw [← e2] at i1
      rw [← e3] at i2
      obtain ⟨n1, n2, n3⟩ := g_ch_nn hg hP h2 hk (show m < 8 by omega) hl
      obtain ⟨p1, p2⟩ := hP _ q1
      have hv8 := hI.W.o8 _ q1
      have hvv := hI.W.2.1.1 _ q1
      have p1 : f_ok (-52) (f_pc (aP A (aD A (gL g k)))) := p1
      have p2 : f_ok (-52) (FP.dsub FP.dconst1 (f_pc (aP A (aD A (gL g k))))) := p2
      refine mg_me [34, 38, 49, 61, 62] 90 my_284 ms_284 (Nat.le_of_ble_eq_true rfl) ?_
      refine ⟨fun _ => ?_, fun h => absurd h (mg_nlt (a := 2) h2 (by omega))⟩
      repeat (first | refine ⟨_, mg_Fs rfl rfl, ?_⟩ | refine ⟨_, mg_Fd rfl rfl, ?_⟩ | refine ⟨Or.inl rfl, ?_⟩ | refine ⟨Or.inr ⟨_, rfl⟩, ?_⟩ | refine ⟨fun _ => ?_, fun h => absurd h (by decide)⟩ | refine ⟨fun h => absurd h (by decide), fun _ => ?_⟩)
      refine ⟨_, _, k, mg_Ai rfl (by decide), mg_ixN (by omega), by omega, ?_⟩
      refine ⟨_, _, 18 + aD A (gL g k), mg_Ai rfl (by decide), mg_ixE (by rw [e1, Int32.ofNat_add]; rfl) (by omega), by omega, ?_⟩
      rw [hI.p hvv]
      refine mg_dds rfl (if_pos p1.nn) ?_
      refine mg_go [38, 49, 61, 62] 60 35 ms_284 ?_
      refine mg_dds rfl (if_pos p2.nn) ?_
      refine mg_go [49, 61, 62] 60 39 ms_284 ?_
      repeat (first | refine ⟨_, mg_Fs rfl rfl, ?_⟩ | refine ⟨_, mg_Fd rfl rfl, ?_⟩ | refine ⟨Or.inl rfl, ?_⟩ | refine ⟨Or.inr ⟨_, rfl⟩, ?_⟩ | refine ⟨fun _ => ?_, fun h => absurd h (by decide)⟩ | refine ⟨fun h => absurd h (by decide), fun _ => ?_⟩)
      refine ⟨_, _, k, mg_Ai rfl (by decide), mg_ixN (by omega), by omega, ?_⟩
      repeat (first | refine ⟨_, mg_Fs rfl rfl, ?_⟩ | refine ⟨_, mg_Fd rfl rfl, ?_⟩ | refine ⟨Or.inl rfl, ?_⟩ | refine ⟨Or.inr ⟨_, rfl⟩, ?_⟩ | refine ⟨fun _ => ?_, fun h => absurd h (by decide)⟩ | refine ⟨fun h => absurd h (by decide), fun _ => ?_⟩)
      refine mg_cv (i1) (by omega) ?_
      refine mg_dds rfl (if_pos n1) ?_
      refine mg_go [61, 62] 60 50 ms_284 ?_
      repeat (first | refine ⟨_, mg_Fs rfl rfl, ?_⟩ | refine ⟨_, mg_Fd rfl rfl, ?_⟩ | refine ⟨Or.inl rfl, ?_⟩ | refine ⟨Or.inr ⟨_, rfl⟩, ?_⟩ | refine ⟨fun _ => ?_, fun h => absurd h (by decide)⟩ | refine ⟨fun h => absurd h (by decide), fun _ => ?_⟩)
      refine ⟨_, _, k, mg_Ai rfl (by decide), mg_ixN (by omega), by omega, ?_⟩
      repeat (first | refine ⟨_, mg_Fs rfl rfl, ?_⟩ | refine ⟨_, mg_Fd rfl rfl, ?_⟩ | refine ⟨Or.inl rfl, ?_⟩ | refine ⟨Or.inr ⟨_, rfl⟩, ?_⟩ | refine ⟨fun _ => ?_, fun h => absurd h (by decide)⟩ | refine ⟨fun h => absurd h (by decide), fun _ => ?_⟩)
      refine mg_cv (i2) (by omega) ?_
      refine mg_dds rfl (if_pos n2) ?_
      refine mg_dds rfl (if_pos n3) ?_
      refine mg_go [] 10 63 ms_284 ?_
      exact ⟨by rw [g_ch_in _ _ _ _ h2]; rfl, rfl, rfl⟩
/-- the answer of chance -/
def rQd (G : mg_G) (a : Int32 × UInt64) : mg_Q := fun o q G' => q = 0 ∧ o = .inl (some (.double a.2)) ∧ rX (mg_sF G 148 10 (.int a.1)) G'
theorem r285 (d : Nat) (hI : rI G A) (f : Int32) : mg_m (mg_KM scr t) (d + aV A + 8) 285 [.ref 148, .int f] G (rQd G (q285 A f)) := by
  have h8 := hI.v8
  have h12 := hI.f12
  have hI3 : rI (mg_sF G 148 10 (.int 0)) A := hI
  unfold q285
  cases hf : vi f (aF A) with
  | none =>
    refine mg_me [] 90 my_285 ms_285 (Nat.le_of_ble_eq_true rfl) ?_
    repeat (first | refine ⟨_, mg_Fs rfl rfl, ?_⟩ | refine ⟨_, mg_Fd rfl rfl, ?_⟩ | refine ⟨Or.inl rfl, ?_⟩ | refine ⟨Or.inr ⟨_, rfl⟩, ?_⟩ | refine ⟨fun _ => ?_, fun h => absurd h (by decide)⟩ | refine ⟨fun h => absurd h (by decide), fun _ => ?_⟩)
    refine mg_cv (r181x d hI hf) (by omega) ?_
    repeat (first | refine ⟨_, mg_Fs rfl rfl, ?_⟩ | refine ⟨_, mg_Fd rfl rfl, ?_⟩ | refine ⟨Or.inl rfl, ?_⟩ | refine ⟨Or.inr ⟨_, rfl⟩, ?_⟩ | refine ⟨fun _ => ?_, fun h => absurd h (by decide)⟩ | refine ⟨fun h => absurd h (by decide), fun _ => ?_⟩)
    refine mg_cv (r176_1 d _ _) (by omega) ?_
    repeat (first | refine ⟨_, mg_Fs rfl rfl, ?_⟩ | refine ⟨_, mg_Fd rfl rfl, ?_⟩ | refine ⟨Or.inl rfl, ?_⟩ | refine ⟨Or.inr ⟨_, rfl⟩, ?_⟩ | refine ⟨fun _ => ?_, fun h => absurd h (by decide)⟩ | refine ⟨fun h => absurd h (by decide), fun _ => ?_⟩)
    exact ⟨rfl, rfl, rX.rf _⟩
  | some i =>
    obtain ⟨rfl, hi⟩ := vi_s hf
    refine mg_me [] 90 my_285 ms_285 (Nat.le_of_ble_eq_true rfl) ?_
    repeat (first | refine ⟨_, mg_Fs rfl rfl, ?_⟩ | refine ⟨_, mg_Fd rfl rfl, ?_⟩ | refine ⟨Or.inl rfl, ?_⟩ | refine ⟨Or.inr ⟨_, rfl⟩, ?_⟩ | refine ⟨fun _ => ?_, fun h => absurd h (by decide)⟩ | refine ⟨fun h => absurd h (by decide), fun _ => ?_⟩)
    refine mg_cv (r181y d hI hf) (by omega) ?_
    repeat (first | refine ⟨_, mg_Fs rfl rfl, ?_⟩ | refine ⟨_, mg_Fd rfl rfl, ?_⟩ | refine ⟨Or.inl rfl, ?_⟩ | refine ⟨Or.inr ⟨_, rfl⟩, ?_⟩ | refine ⟨fun _ => ?_, fun h => absurd h (by decide)⟩ | refine ⟨fun h => absurd h (by decide), fun _ => ?_⟩)
    refine mg_cv (r176_0 d) (by omega) ?_
    repeat (first | refine ⟨_, mg_Fs rfl rfl, ?_⟩ | refine ⟨_, mg_Fd rfl rfl, ?_⟩ | refine ⟨Or.inl rfl, ?_⟩ | refine ⟨Or.inr ⟨_, rfl⟩, ?_⟩ | refine ⟨fun _ => ?_, fun h => absurd h (by decide)⟩ | refine ⟨fun h => absurd h (by decide), fun _ => ?_⟩)
    refine mg_m_mono (r201A d hI3) (by omega) ?_
    rintro o q G1 ⟨rfl, rfl, hX, hgr, hg, hr, -⟩
    have hc := r284 (scr := scr) (t := t) (hX.I hI3) hgr hg (aV A) d _ (hr i hi).2 (by omega) (by omega)
    rw [← (hr i hi).1] at hc
    repeat (first | refine ⟨_, mg_Fs rfl rfl, ?_⟩ | refine ⟨_, mg_Fd rfl rfl, ?_⟩ | refine ⟨Or.inl rfl, ?_⟩ | refine ⟨Or.inr ⟨_, rfl⟩, ?_⟩ | refine ⟨fun _ => ?_, fun h => absurd h (by decide)⟩ | refine ⟨fun h => absurd h (by decide), fun _ => ?_⟩)
    refine ⟨_, _, i, mg_Ai rfl (by decide), mg_ixN (by omega), by omega, ?_⟩
    repeat (first | refine ⟨_, mg_Fs rfl rfl, ?_⟩ | refine ⟨_, mg_Fd rfl rfl, ?_⟩ | refine ⟨Or.inl rfl, ?_⟩ | refine ⟨Or.inr ⟨_, rfl⟩, ?_⟩ | refine ⟨fun _ => ?_, fun h => absurd h (by decide)⟩ | refine ⟨fun h => absurd h (by decide), fun _ => ?_⟩)
    refine mg_cv (hc) (by omega) ?_
    exact ⟨rfl, rfl, hX⟩
/-- the size of the table at the stack's bottom -/
theorem r294 (d : Nat) (hI : rI G A) {T : a_T} (hK : cRow G 164 0 4 T) (hp : a_per (aV A) T) : mg_m (mg_KM scr t) (d + aV A + 7) 294 [.ref 148] G (fun o q G' => q = 0 ∧ o = .inl (some (.int (Int32.ofNat (a_vis (aD A) (aV A) (aV A + 1) T []).length))) ∧ rX G G') := by
  have h8 := hI.v8
  have hW := hI.W
  have hS : rS G (aD A) (aV A) (aF A) := ⟨hI.1, hI.v, by omega, hI.f, hI.f12, fun j hj => ⟨hI.o hj, hW.o8 j hj⟩⟩
  have hH := (rO_H hS).fr (rZ_fr (rO G (aV A)))
  have hlen : (a_vis (aD A) (aV A) (aV A + 1) T []).length ≤ 626 := by
    have := a_all_626 (tb := fun _ => T) (nf := 1) hW.2.1 (by decide) (fun _ _ => hp)
    rwa [a_one_O] at this
  have hv := r198 (scr := scr) (t := t) (aD A) (aV A) (aV A + 1) d T 0 (rZ (rO G (aV A))) [] hH (rZ_N _) List.nodup_nil (by omega) (Nat.zero_le _) (fun j hj => absurd hj (Nat.not_lt_zero _)) (fun v hv h => by
    refine hW.2.1.2.1 v (Decidable.byContradiction fun q => ?_)
    rw [hp v hv (by omega)] at h
    cases h) (by omega)
  have hfr := rZ_fr (rO G (aV A))
  have e164 : ∀ w, w < 4 → (rZ (rO G (aV A))).2.1 164 w = a_wd T w := fun w hw => by
    rw [hfr.2.2.1 164 (by decide)]
    have := hK w hw
    rwa [Nat.mul_zero, Nat.zero_add] at this
  refine mg_me [] 90 my_294 ms_294 (Nat.le_of_ble_eq_true rfl) ?_
  repeat (first | refine ⟨_, mg_Fs rfl rfl, ?_⟩ | refine ⟨_, mg_Fd rfl rfl, ?_⟩ | refine ⟨Or.inl rfl, ?_⟩ | refine ⟨Or.inr ⟨_, rfl⟩, ?_⟩ | refine ⟨fun _ => ?_, fun h => absurd h (by decide)⟩ | refine ⟨fun h => absurd h (by decide), fun _ => ?_⟩)
  refine mg_cn (r195 d (aV A) G hI.v h8) (by omega) ?_
  repeat (first | refine ⟨_, mg_Fs rfl rfl, ?_⟩ | refine ⟨_, mg_Fd rfl rfl, ?_⟩ | refine ⟨Or.inl rfl, ?_⟩ | refine ⟨Or.inr ⟨_, rfl⟩, ?_⟩ | refine ⟨fun _ => ?_, fun h => absurd h (by decide)⟩ | refine ⟨fun h => absurd h (by decide), fun _ => ?_⟩)
  refine mg_cn (r194 d (rO G (aV A))) (by omega) ?_
  repeat (first | refine ⟨_, mg_Fs rfl rfl, ?_⟩ | refine ⟨_, mg_Fd rfl rfl, ?_⟩ | refine ⟨Or.inl rfl, ?_⟩ | refine ⟨Or.inr ⟨_, rfl⟩, ?_⟩ | refine ⟨fun _ => ?_, fun h => absurd h (by decide)⟩ | refine ⟨fun h => absurd h (by decide), fun _ => ?_⟩)
  refine ⟨_, _, 0, mg_Al rfl (by decide), ⟨by decide, by decide⟩, by decide, ?_⟩
  rw [e164 0 (by decide)]
  repeat (first | refine ⟨_, mg_Fs rfl rfl, ?_⟩ | refine ⟨_, mg_Fd rfl rfl, ?_⟩ | refine ⟨Or.inl rfl, ?_⟩ | refine ⟨Or.inr ⟨_, rfl⟩, ?_⟩ | refine ⟨fun _ => ?_, fun h => absurd h (by decide)⟩ | refine ⟨fun h => absurd h (by decide), fun _ => ?_⟩)
  refine ⟨_, _, 1, mg_Al rfl (by decide), ⟨by decide, by decide⟩, by decide, ?_⟩
  rw [e164 1 (by decide)]
  repeat (first | refine ⟨_, mg_Fs rfl rfl, ?_⟩ | refine ⟨_, mg_Fd rfl rfl, ?_⟩ | refine ⟨Or.inl rfl, ?_⟩ | refine ⟨Or.inr ⟨_, rfl⟩, ?_⟩ | refine ⟨fun _ => ?_, fun h => absurd h (by decide)⟩ | refine ⟨fun h => absurd h (by decide), fun _ => ?_⟩)
  refine ⟨_, _, 2, mg_Al rfl (by decide), ⟨by decide, by decide⟩, by decide, ?_⟩
  rw [e164 2 (by decide)]
  repeat (first | refine ⟨_, mg_Fs rfl rfl, ?_⟩ | refine ⟨_, mg_Fd rfl rfl, ?_⟩ | refine ⟨Or.inl rfl, ?_⟩ | refine ⟨Or.inr ⟨_, rfl⟩, ?_⟩ | refine ⟨fun _ => ?_, fun h => absurd h (by decide)⟩ | refine ⟨fun h => absurd h (by decide), fun _ => ?_⟩)
  refine ⟨_, _, 3, mg_Al rfl (by decide), ⟨by decide, by decide⟩, by decide, ?_⟩
  rw [e164 3 (by decide)]
  repeat (first | refine ⟨_, mg_Fs rfl rfl, ?_⟩ | refine ⟨_, mg_Fd rfl rfl, ?_⟩ | refine ⟨Or.inl rfl, ?_⟩ | refine ⟨Or.inr ⟨_, rfl⟩, ?_⟩ | refine ⟨fun _ => ?_, fun h => absurd h (by decide)⟩ | refine ⟨fun h => absurd h (by decide), fun _ => ?_⟩)
  refine mg_m_mono (hv) (by omega) ?_
  rintro o k G2 ⟨rfl, r, rfl, hnd, hN, hF, hC⟩
  refine ⟨_, mg_Fe hN.1 rfl rfl, Or.inl rfl, rfl, ?_, ?_⟩
  · show (Sum.inl (some (Value.int (Int32.ofNat ((a_vis (aD A) (aV A) (aV A + 1) T []).length + 2) - Int32.ofNat 2))) : Option Value ⊕ String) = _
    rw [mg_subN (by omega), Nat.add_sub_cancel]
  · refine rX.W ((rX.rf G).u _ (show 155 ≤ 161 ∧ 161 ≤ 168 by decide)) (G' := rO G (aV A)) ?_
    exact ((rW.rf _).fr hfr).fr hF
theorem r295 (d : Nat) (hI : rI G A) (op f g : Int32) : mg_m (mg_KM scr t) (d + aV A + 8) 295 [.ref 148, .int op, .int f, .int g] G (rQ G (q295 A op f g)) := by
  have h8 := hI.v8
  have h12 := hI.f12
  have hI3 : rI (mg_sF G 148 10 (.int 0)) A := hI
  unfold q295
  cases hf : vi f (aF A) with
  | none =>
    rw [qF_x hf]
    refine mg_me [] 120 my_295 ms_295 (Nat.le_of_ble_eq_true rfl) ?_
    repeat (first | refine ⟨_, mg_Fs rfl rfl, ?_⟩ | refine ⟨_, mg_Fd rfl rfl, ?_⟩ | refine ⟨Or.inl rfl, ?_⟩ | refine ⟨Or.inr ⟨_, rfl⟩, ?_⟩ | refine ⟨fun _ => ?_, fun h => absurd h (by decide)⟩ | refine ⟨fun h => absurd h (by decide), fun _ => ?_⟩)
    refine mg_cv (r181x d hI hf) (by omega) ?_
    repeat (first | refine ⟨_, mg_Fs rfl rfl, ?_⟩ | refine ⟨_, mg_Fd rfl rfl, ?_⟩ | refine ⟨Or.inl rfl, ?_⟩ | refine ⟨Or.inr ⟨_, rfl⟩, ?_⟩ | refine ⟨fun _ => ?_, fun h => absurd h (by decide)⟩ | refine ⟨fun h => absurd h (by decide), fun _ => ?_⟩)
    refine mg_cv (r177 d op 0 _ G) (by omega) ?_
    refine ⟨fun _ => ?_, fun _ => ?_⟩
    · repeat (first | refine ⟨_, mg_Fs rfl rfl, ?_⟩ | refine ⟨_, mg_Fd rfl rfl, ?_⟩ | refine ⟨Or.inl rfl, ?_⟩ | refine ⟨Or.inr ⟨_, rfl⟩, ?_⟩ | refine ⟨fun _ => ?_, fun h => absurd h (by decide)⟩ | refine ⟨fun h => absurd h (by decide), fun _ => ?_⟩)
      refine mg_cv (r176_1 d _ _) (by omega) ?_
      repeat (first | refine ⟨_, mg_Fs rfl rfl, ?_⟩ | refine ⟨_, mg_Fd rfl rfl, ?_⟩ | refine ⟨Or.inl rfl, ?_⟩ | refine ⟨Or.inr ⟨_, rfl⟩, ?_⟩ | refine ⟨fun _ => ?_, fun h => absurd h (by decide)⟩ | refine ⟨fun h => absurd h (by decide), fun _ => ?_⟩)
      exact ⟨rfl, rfl, rX.rf _⟩
    · repeat (first | refine ⟨_, mg_Fs rfl rfl, ?_⟩ | refine ⟨_, mg_Fd rfl rfl, ?_⟩ | refine ⟨Or.inl rfl, ?_⟩ | refine ⟨Or.inr ⟨_, rfl⟩, ?_⟩ | refine ⟨fun _ => ?_, fun h => absurd h (by decide)⟩ | refine ⟨fun h => absurd h (by decide), fun _ => ?_⟩)
      refine mg_cv (r176_1 d _ _) (by omega) ?_
      repeat (first | refine ⟨_, mg_Fs rfl rfl, ?_⟩ | refine ⟨_, mg_Fd rfl rfl, ?_⟩ | refine ⟨Or.inl rfl, ?_⟩ | refine ⟨Or.inr ⟨_, rfl⟩, ?_⟩ | refine ⟨fun _ => ?_, fun h => absurd h (by decide)⟩ | refine ⟨fun h => absurd h (by decide), fun _ => ?_⟩)
      exact ⟨rfl, rfl, rX.rf _⟩
  | some i =>
    obtain ⟨rfl, hi⟩ := vi_s hf
    rw [qF_y hf]
    cases hg : vi g (aF A) with
    | none =>
      rw [qF_x hg]
      refine mg_me [] 120 my_295 ms_295 (Nat.le_of_ble_eq_true rfl) ?_
      repeat (first | refine ⟨_, mg_Fs rfl rfl, ?_⟩ | refine ⟨_, mg_Fd rfl rfl, ?_⟩ | refine ⟨Or.inl rfl, ?_⟩ | refine ⟨Or.inr ⟨_, rfl⟩, ?_⟩ | refine ⟨fun _ => ?_, fun h => absurd h (by decide)⟩ | refine ⟨fun h => absurd h (by decide), fun _ => ?_⟩)
      refine mg_cv (r181y d hI hf) (by omega) ?_
      repeat (first | refine ⟨_, mg_Fs rfl rfl, ?_⟩ | refine ⟨_, mg_Fd rfl rfl, ?_⟩ | refine ⟨Or.inl rfl, ?_⟩ | refine ⟨Or.inr ⟨_, rfl⟩, ?_⟩ | refine ⟨fun _ => ?_, fun h => absurd h (by decide)⟩ | refine ⟨fun h => absurd h (by decide), fun _ => ?_⟩)
      refine mg_cv (r181x d hI hg) (by omega) ?_
      repeat (first | refine ⟨_, mg_Fs rfl rfl, ?_⟩ | refine ⟨_, mg_Fd rfl rfl, ?_⟩ | refine ⟨Or.inl rfl, ?_⟩ | refine ⟨Or.inr ⟨_, rfl⟩, ?_⟩ | refine ⟨fun _ => ?_, fun h => absurd h (by decide)⟩ | refine ⟨fun h => absurd h (by decide), fun _ => ?_⟩)
      refine mg_cv (r177 d op 0 _ G) (by omega) ?_
      refine ⟨fun _ => ?_, fun _ => ?_⟩
      · repeat (first | refine ⟨_, mg_Fs rfl rfl, ?_⟩ | refine ⟨_, mg_Fd rfl rfl, ?_⟩ | refine ⟨Or.inl rfl, ?_⟩ | refine ⟨Or.inr ⟨_, rfl⟩, ?_⟩ | refine ⟨fun _ => ?_, fun h => absurd h (by decide)⟩ | refine ⟨fun h => absurd h (by decide), fun _ => ?_⟩)
        refine mg_cv (r176_1 d _ _) (by omega) ?_
        repeat (first | refine ⟨_, mg_Fs rfl rfl, ?_⟩ | refine ⟨_, mg_Fd rfl rfl, ?_⟩ | refine ⟨Or.inl rfl, ?_⟩ | refine ⟨Or.inr ⟨_, rfl⟩, ?_⟩ | refine ⟨fun _ => ?_, fun h => absurd h (by decide)⟩ | refine ⟨fun h => absurd h (by decide), fun _ => ?_⟩)
        exact ⟨rfl, rfl, rX.rf _⟩
      · repeat (first | refine ⟨_, mg_Fs rfl rfl, ?_⟩ | refine ⟨_, mg_Fd rfl rfl, ?_⟩ | refine ⟨Or.inl rfl, ?_⟩ | refine ⟨Or.inr ⟨_, rfl⟩, ?_⟩ | refine ⟨fun _ => ?_, fun h => absurd h (by decide)⟩ | refine ⟨fun h => absurd h (by decide), fun _ => ?_⟩)
        refine mg_cv (r176_1 d _ _) (by omega) ?_
        repeat (first | refine ⟨_, mg_Fs rfl rfl, ?_⟩ | refine ⟨_, mg_Fd rfl rfl, ?_⟩ | refine ⟨Or.inl rfl, ?_⟩ | refine ⟨Or.inr ⟨_, rfl⟩, ?_⟩ | refine ⟨fun _ => ?_, fun h => absurd h (by decide)⟩ | refine ⟨fun h => absurd h (by decide), fun _ => ?_⟩)
        exact ⟨rfl, rfl, rX.rf _⟩
    | some j =>
      obtain ⟨rfl, hj⟩ := vi_s hg
      rw [qF_y hg]
      cases ho : vi op 6 with
      | none =>
        refine mg_me [] 120 my_295 ms_295 (Nat.le_of_ble_eq_true rfl) ?_
        repeat (first | refine ⟨_, mg_Fs rfl rfl, ?_⟩ | refine ⟨_, mg_Fd rfl rfl, ?_⟩ | refine ⟨Or.inl rfl, ?_⟩ | refine ⟨Or.inr ⟨_, rfl⟩, ?_⟩ | refine ⟨fun _ => ?_, fun h => absurd h (by decide)⟩ | refine ⟨fun h => absurd h (by decide), fun _ => ?_⟩)
        refine mg_cv (r181y d hI hf) (by omega) ?_
        repeat (first | refine ⟨_, mg_Fs rfl rfl, ?_⟩ | refine ⟨_, mg_Fd rfl rfl, ?_⟩ | refine ⟨Or.inl rfl, ?_⟩ | refine ⟨Or.inr ⟨_, rfl⟩, ?_⟩ | refine ⟨fun _ => ?_, fun h => absurd h (by decide)⟩ | refine ⟨fun h => absurd h (by decide), fun _ => ?_⟩)
        refine mg_cv (r181y d hI hg) (by omega) ?_
        repeat (first | refine ⟨_, mg_Fs rfl rfl, ?_⟩ | refine ⟨_, mg_Fd rfl rfl, ?_⟩ | refine ⟨Or.inl rfl, ?_⟩ | refine ⟨Or.inr ⟨_, rfl⟩, ?_⟩ | refine ⟨fun _ => ?_, fun h => absurd h (by decide)⟩ | refine ⟨fun h => absurd h (by decide), fun _ => ?_⟩)
        refine mg_cv (r177x d ho (by decide) (by decide)) (by omega) ?_
        repeat (first | refine ⟨_, mg_Fs rfl rfl, ?_⟩ | refine ⟨_, mg_Fd rfl rfl, ?_⟩ | refine ⟨Or.inl rfl, ?_⟩ | refine ⟨Or.inr ⟨_, rfl⟩, ?_⟩ | refine ⟨fun _ => ?_, fun h => absurd h (by decide)⟩ | refine ⟨fun h => absurd h (by decide), fun _ => ?_⟩)
        refine mg_cv (r176_2 d _) (by omega) ?_
        repeat (first | refine ⟨_, mg_Fs rfl rfl, ?_⟩ | refine ⟨_, mg_Fd rfl rfl, ?_⟩ | refine ⟨Or.inl rfl, ?_⟩ | refine ⟨Or.inr ⟨_, rfl⟩, ?_⟩ | refine ⟨fun _ => ?_, fun h => absurd h (by decide)⟩ | refine ⟨fun h => absurd h (by decide), fun _ => ?_⟩)
        exact ⟨rfl, rfl, rX.rf _⟩
      | some o =>
        have hX0 : rX (mg_sF G 148 10 (.int 0)) (mg_sF (mg_sF G 148 10 (.int 0)) 148 28 (.int (Int32.ofInt 0))) := (rX.rf _).s _ (by decide)
        have hI0 := hX0.I hI3
        refine mg_me [] 120 my_295 ms_295 (Nat.le_of_ble_eq_true rfl) ?_
        repeat (first | refine ⟨_, mg_Fs rfl rfl, ?_⟩ | refine ⟨_, mg_Fd rfl rfl, ?_⟩ | refine ⟨Or.inl rfl, ?_⟩ | refine ⟨Or.inr ⟨_, rfl⟩, ?_⟩ | refine ⟨fun _ => ?_, fun h => absurd h (by decide)⟩ | refine ⟨fun h => absurd h (by decide), fun _ => ?_⟩)
        refine mg_cv (r181y d hI hf) (by omega) ?_
        repeat (first | refine ⟨_, mg_Fs rfl rfl, ?_⟩ | refine ⟨_, mg_Fd rfl rfl, ?_⟩ | refine ⟨Or.inl rfl, ?_⟩ | refine ⟨Or.inr ⟨_, rfl⟩, ?_⟩ | refine ⟨fun _ => ?_, fun h => absurd h (by decide)⟩ | refine ⟨fun h => absurd h (by decide), fun _ => ?_⟩)
        refine mg_cv (r181y d hI hg) (by omega) ?_
        repeat (first | refine ⟨_, mg_Fs rfl rfl, ?_⟩ | refine ⟨_, mg_Fd rfl rfl, ?_⟩ | refine ⟨Or.inl rfl, ?_⟩ | refine ⟨Or.inr ⟨_, rfl⟩, ?_⟩ | refine ⟨fun _ => ?_, fun h => absurd h (by decide)⟩ | refine ⟨fun h => absurd h (by decide), fun _ => ?_⟩)
        refine mg_cv (r177y d ho (by decide) (by decide)) (by omega) ?_
        repeat (first | refine ⟨_, mg_Fs rfl rfl, ?_⟩ | refine ⟨_, mg_Fd rfl rfl, ?_⟩ | refine ⟨Or.inl rfl, ?_⟩ | refine ⟨Or.inr ⟨_, rfl⟩, ?_⟩ | refine ⟨fun _ => ?_, fun h => absurd h (by decide)⟩ | refine ⟨fun h => absurd h (by decide), fun _ => ?_⟩)
        refine mg_cv (r176_0 d) (by omega) ?_
        refine ⟨fun _ => ⟨rfl, _, rfl, rfl, ?_⟩, fun h => absurd rfl h⟩
        repeat (first | refine ⟨_, mg_Fs rfl rfl, ?_⟩ | refine ⟨_, mg_Fd rfl rfl, ?_⟩ | refine ⟨Or.inl rfl, ?_⟩ | refine ⟨Or.inr ⟨_, rfl⟩, ?_⟩ | refine ⟨fun _ => ?_, fun h => absurd h (by decide)⟩ | refine ⟨fun h => absurd h (by decide), fun _ => ?_⟩)
        refine mg_m_mono (r224 d hI0 hi (rK_0 _) (by decide)) (by omega) ?_
        rintro o q G1 ⟨rfl, rfl, hX1, hK1⟩
        have hI1 := hX1.I hI0
        repeat (first | refine ⟨_, mg_Fs rfl rfl, ?_⟩ | refine ⟨_, mg_Fd rfl rfl, ?_⟩ | refine ⟨Or.inl rfl, ?_⟩ | refine ⟨Or.inr ⟨_, rfl⟩, ?_⟩ | refine ⟨fun _ => ?_, fun h => absurd h (by decide)⟩ | refine ⟨fun h => absurd h (by decide), fun _ => ?_⟩)
        refine mg_m_mono (r224 d hI1 hj hK1 (show 1 < 400 by decide)) (by omega) ?_
        rintro o q G2 ⟨rfl, rfl, hX2, hK2⟩
        repeat (first | refine ⟨_, mg_Fs rfl rfl, ?_⟩ | refine ⟨_, mg_Fd rfl rfl, ?_⟩ | refine ⟨Or.inl rfl, ?_⟩ | refine ⟨Or.inr ⟨_, rfl⟩, ?_⟩ | refine ⟨fun _ => ?_, fun h => absurd h (by decide)⟩ | refine ⟨fun h => absurd h (by decide), fun _ => ?_⟩)
        refine mg_m_mono (r227 d op (ts := []) hK2 (by decide)) (by omega) ?_
        rintro o q G3 ⟨rfl, rfl, hX3, hK3⟩
        have hI4 := hX3.I (hX2.I hI1)
        repeat (first | refine ⟨_, mg_Fs rfl rfl, ?_⟩ | refine ⟨_, mg_Fd rfl rfl, ?_⟩ | refine ⟨Or.inl rfl, ?_⟩ | refine ⟨Or.inr ⟨_, rfl⟩, ?_⟩ | refine ⟨fun _ => ?_, fun h => absurd h (by decide)⟩ | refine ⟨fun h => absurd h (by decide), fun _ => ?_⟩)
        refine mg_m_mono (r294 d hI4 (rK_row hK3) (a_per_op op (hI.W.2.2.2.1 i hi) (hI.W.2.2.2.1 j hj))) (by omega) ?_
        rintro o q G4 ⟨rfl, rfl, hX4⟩
        exact ⟨Or.inl rfl, rfl, rfl, (((hX0.tr hX1).tr hX2).tr hX3).tr hX4⟩
end RM
