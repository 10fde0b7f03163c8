/-! REFERENCE: node, find, chance, sizeOf -/
/-- the double of a query's answer: what is thrown, and the bits -/
def q285 (A : a_A) (f : Int32) : Int32 × UInt64 := match vi f (aF A) with
  | none => (1, FP.dconst0)
  | some f => (0, g_ch (aG A) (fun l => f_pc (aP A (aD A l))) (aV A) (aR A f))
def q295 (A : a_A) (op f g : Int32) : qR := qF A f fun f => qF A g fun g => match vi op 6 with
  | none => (2, 0)
  | some _ => (0, Int32.ofNat (a_vis (aD A) (aV A) (aV A + 1) (a_op op (aT A f) (aT A g)) []).length)
theorem aW.P {A : a_A} (h : aW A) : f_P (fun l => f_pc (aP A (aD A l))) (aV A) := fun l hl => by
  obtain ⟨p, hp, e⟩ := h.2.2.2.2.2.2 _ (h.2.1.1 l hl)
  show f_ok (-52) (f_pc (aP A (aD A l))) ∧ f_ok (-52) (FP.dsub FP.dconst1 (f_pc (aP A (aD A l))))
  rw [e]
  exact f_pc_ok hp
theorem a_one_O {ord : Nat → Nat} {nv : Nat} (T : a_T) : a_all ord nv (fun _ => T) 1 = a_vis ord nv (nv + 1) T [] := rfl
section RM
variable {scr : Nat × (Nat → Int32)} {t : List mg_S} {G : mg_G} {A : a_A} {S : a_S} {g : a_Gr}
/-- one node is asked for, behind build -/
theorem r267 (d : Nat) (hI : rI G A) (k w : Int32) : mg_m (mg_KM scr t) (d + aV A + 8) 267 [.ref 148, .int k, .int w] G (rQ G (q267 A k w)) := by
  have h8 := hI.v8
  have h12 := hI.f12
  have hW := hI.W
  unfold q267
  cases hk : vi k (gN (aG A)) with
  | none =>
    refine mg_me [108, 158, 205] 200 my_267 ms_267 (Nat.le_of_ble_eq_true rfl) ?_
    repeat (first | refine ⟨_, mg_Fs rfl rfl, ?_⟩ | refine ⟨_, mg_Fd rfl rfl, ?_⟩ | refine ⟨Or.inl rfl, ?_⟩ | refine ⟨Or.inr ⟨_, rfl⟩, ?_⟩ | refine ⟨fun _ => ?_, fun h => absurd h (by decide)⟩ | refine ⟨fun h => absurd h (by decide), fun _ => ?_⟩)
    refine mg_m_mono (r201A d hI) (by omega) ?_
    rintro o q G1 ⟨rfl, rfl, hX, hgr, hg, hr, -⟩
    have h9 := hg.2.1
    refine ⟨_, mg_Fe hgr.1 rfl rfl, ?_⟩
    repeat (first | refine ⟨_, mg_Fs rfl rfl, ?_⟩ | refine ⟨_, mg_Fd rfl rfl, ?_⟩ | refine ⟨Or.inl rfl, ?_⟩ | refine ⟨Or.inr ⟨_, rfl⟩, ?_⟩ | refine ⟨fun _ => ?_, fun h => absurd h (by decide)⟩ | refine ⟨fun h => absurd h (by decide), fun _ => ?_⟩)
    refine mg_cv (r177x d hk rfl (by omega)) (by omega) ?_
    repeat (first | refine ⟨_, mg_Fs rfl rfl, ?_⟩ | refine ⟨_, mg_Fd rfl rfl, ?_⟩ | refine ⟨Or.inl rfl, ?_⟩ | refine ⟨Or.inr ⟨_, rfl⟩, ?_⟩ | refine ⟨fun _ => ?_, fun h => absurd h (by decide)⟩ | refine ⟨fun h => absurd h (by decide), fun _ => ?_⟩)
    refine mg_cv (r177 d w 0 _ G1) (by omega) ?_
    refine ⟨fun _ => ?_, fun _ => ?_⟩
    · repeat (first | refine ⟨_, mg_Fs rfl rfl, ?_⟩ | refine ⟨_, mg_Fd rfl rfl, ?_⟩ | refine ⟨Or.inl rfl, ?_⟩ | refine ⟨Or.inr ⟨_, rfl⟩, ?_⟩ | refine ⟨fun _ => ?_, fun h => absurd h (by decide)⟩ | refine ⟨fun h => absurd h (by decide), fun _ => ?_⟩)
      refine mg_cv (r176_1 d _ _) (by omega) ?_
      repeat (first | refine ⟨_, mg_Fs rfl rfl, ?_⟩ | refine ⟨_, mg_Fd rfl rfl, ?_⟩ | refine ⟨Or.inl rfl, ?_⟩ | refine ⟨Or.inr ⟨_, rfl⟩, ?_⟩ | refine ⟨fun _ => ?_, fun h => absurd h (by decide)⟩ | refine ⟨fun h => absurd h (by decide), fun _ => ?_⟩)
      exact ⟨rfl, rfl, hX.sf 148 10 _⟩
    · repeat (first | refine ⟨_, mg_Fs rfl rfl, ?_⟩ | refine ⟨_, mg_Fd rfl rfl, ?_⟩ | refine ⟨Or.inl rfl, ?_⟩ | refine ⟨Or.inr ⟨_, rfl⟩, ?_⟩ | refine ⟨fun _ => ?_, fun h => absurd h (by decide)⟩ | refine ⟨fun h => absurd h (by decide), fun _ => ?_⟩)
      refine mg_cv (r176_1 d _ _) (by omega) ?_
      repeat (first | refine ⟨_, mg_Fs rfl rfl, ?_⟩ | refine ⟨_, mg_Fd rfl rfl, ?_⟩ | refine ⟨Or.inl rfl, ?_⟩ | refine ⟨Or.inr ⟨_, rfl⟩, ?_⟩ | refine ⟨fun _ => ?_, fun h => absurd h (by decide)⟩ | refine ⟨fun h => absurd h (by decide), fun _ => ?_⟩)
      exact ⟨rfl, rfl, hX.sf 148 10 _⟩
  | some i =>
    obtain ⟨rfl, hi⟩ := vi_s hk
    cases hw : vi w 6 with
    | none =>
      refine mg_me [108, 158, 205] 200 my_267 ms_267 (Nat.le_of_ble_eq_true rfl) ?_
      repeat (first | refine ⟨_, mg_Fs rfl rfl, ?_⟩ | refine ⟨_, mg_Fd rfl rfl, ?_⟩ | refine ⟨Or.inl rfl, ?_⟩ | refine ⟨Or.inr ⟨_, rfl⟩, ?_⟩ | refine ⟨fun _ => ?_, fun h => absurd h (by decide)⟩ | refine ⟨fun h => absurd h (by decide), fun _ => ?_⟩)
      refine mg_m_mono (r201A d hI) (by omega) ?_
      rintro o q G1 ⟨rfl, rfl, hX, hgr, hg, hr, -⟩
      have h9 := hg.2.1
      refine ⟨_, mg_Fe hgr.1 rfl rfl, ?_⟩
      repeat (first | refine ⟨_, mg_Fs rfl rfl, ?_⟩ | refine ⟨_, mg_Fd rfl rfl, ?_⟩ | refine ⟨Or.inl rfl, ?_⟩ | refine ⟨Or.inr ⟨_, rfl⟩, ?_⟩ | refine ⟨fun _ => ?_, fun h => absurd h (by decide)⟩ | refine ⟨fun h => absurd h (by decide), fun _ => ?_⟩)
      refine mg_cv (r177y d hk rfl (by omega)) (by omega) ?_
      repeat (first | refine ⟨_, mg_Fs rfl rfl, ?_⟩ | refine ⟨_, mg_Fd rfl rfl, ?_⟩ | refine ⟨Or.inl rfl, ?_⟩ | refine ⟨Or.inr ⟨_, rfl⟩, ?_⟩ | refine ⟨fun _ => ?_, fun h => absurd h (by decide)⟩ | refine ⟨fun h => absurd h (by decide), fun _ => ?_⟩)
      refine mg_cv (r177x d hw (by decide) (by decide)) (by omega) ?_
      repeat (first | refine ⟨_, mg_Fs rfl rfl, ?_⟩ | refine ⟨_, mg_Fd rfl rfl, ?_⟩ | refine ⟨Or.inl rfl, ?_⟩ | refine ⟨Or.inr ⟨_, rfl⟩, ?_⟩ | refine ⟨fun _ => ?_, fun h => absurd h (by decide)⟩ | refine ⟨fun h => absurd h (by decide), fun _ => ?_⟩)
      refine mg_cv (r176_2 d _) (by omega) ?_
      repeat (first | refine ⟨_, mg_Fs rfl rfl, ?_⟩ | refine ⟨_, mg_Fd rfl rfl, ?_⟩ | refine ⟨Or.inl rfl, ?_⟩ | refine ⟨Or.inr ⟨_, rfl⟩, ?_⟩ | refine ⟨fun _ => ?_, fun h => absurd h (by decide)⟩ | refine ⟨fun h => absurd h (by decide), fun _ => ?_⟩)
      exact ⟨rfl, rfl, hX.sf 148 10 _⟩
    | some j =>
      obtain ⟨rfl, hj⟩ := vi_s hw
      have pre : ∀ {Q : mg_Q}, (∀ G1, rX G G1 → rGr G1 (aD A) (aG A) → gW (aV A) (aG A) → (∀ f, f < aF A → G1.1 159 f = Int32.ofNat (aR A f) ∧ aR A f < gN (aG A)) → mg_wp (mg_KM scr t) mc_267 (d + aV A + 7) 50 [some (.ref 148), some (.int (Int32.ofNat i)), some (.int (Int32.ofNat j)), some (.int (Int32.ofInt 0)), none] [] (mg_sF G1 148 10 (.int 0)) Q) → mg_m (mg_KM scr t) (d + aV A + 8) 267 [.ref 148, .int (Int32.ofNat i), .int (Int32.ofNat j)] G Q := fun {Q} nx => by
        refine mg_me [50] 200 my_267 ms_267 (Nat.le_of_ble_eq_true rfl) ?_
        repeat (first | refine ⟨_, mg_Fs rfl rfl, ?_⟩ | refine ⟨_, mg_Fd rfl rfl, ?_⟩ | refine ⟨Or.inl rfl, ?_⟩ | refine ⟨Or.inr ⟨_, rfl⟩, ?_⟩ | refine ⟨fun _ => ?_, fun h => absurd h (by decide)⟩ | refine ⟨fun h => absurd h (by decide), fun _ => ?_⟩)
        refine mg_m_mono (r201A d hI) (by omega) ?_
        rintro o q G1 ⟨rfl, rfl, hX, hgr, hg, hr, -⟩
        have h9 := hg.2.1
        refine ⟨_, mg_Fe hgr.1 rfl rfl, ?_⟩
        repeat (first | refine ⟨_, mg_Fs rfl rfl, ?_⟩ | refine ⟨_, mg_Fd rfl rfl, ?_⟩ | refine ⟨Or.inl rfl, ?_⟩ | refine ⟨Or.inr ⟨_, rfl⟩, ?_⟩ | refine ⟨fun _ => ?_, fun h => absurd h (by decide)⟩ | refine ⟨fun h => absurd h (by decide), fun _ => ?_⟩)
        refine mg_cv (r177y d hk rfl (by omega)) (by omega) ?_
        repeat (first | refine ⟨_, mg_Fs rfl rfl, ?_⟩ | refine ⟨_, mg_Fd rfl rfl, ?_⟩ | refine ⟨Or.inl rfl, ?_⟩ | refine ⟨Or.inr ⟨_, rfl⟩, ?_⟩ | refine ⟨fun _ => ?_, fun h => absurd h (by decide)⟩ | refine ⟨fun h => absurd h (by decide), fun _ => ?_⟩)
        refine mg_cv (r177y d hw (by decide) (by decide)) (by omega) ?_
        repeat (first | refine ⟨_, mg_Fs rfl rfl, ?_⟩ | refine ⟨_, mg_Fd rfl rfl, ?_⟩ | refine ⟨Or.inl rfl, ?_⟩ | refine ⟨Or.inr ⟨_, rfl⟩, ?_⟩ | refine ⟨fun _ => ?_, fun h => absurd h (by decide)⟩ | refine ⟨fun h => absurd h (by decide), fun _ => ?_⟩)
        refine mg_cv (r176_0 d) (by omega) ?_
        exact ⟨fun _ => nx G1 hX hgr hg hr, fun h => absurd rfl h⟩
      refine pre fun G1 hX hgr hg hr => ?_
      have hX1 : rX (mg_sF G 148 10 (.int 0)) (mg_sF G1 148 10 (.int 0)) := hX.sf 148 10 _
      have hI1 : rI (mg_sF G1 148 10 (.int 0)) A := hX.I hI
      have hgr1 : rGr (mg_sF G1 148 10 (.int 0)) (aD A) (aG A) := hgr
      have h9 := hg.2.1
      have h0 := hg.1
      rcases (show j = 0 ∨ j = 1 ∨ j = 2 ∨ j = 3 ∨ j = 4 ∨ j = 5 by omega) with rfl | rfl | rfl | rfl | rfl | rfl
      · refine mg_go [] 60 50 ms_267 ?_
        refine ⟨by decide, fun h => absurd h (by decide), fun _ => ?_, fun h => absurd h (by decide), fun h => absurd h (by decide), fun h => absurd h (by decide), fun h => absurd h (by decide), trivial⟩
        repeat (first | refine ⟨_, mg_Fs rfl rfl, ?_⟩ | refine ⟨_, mg_Fd rfl rfl, ?_⟩ | refine ⟨Or.inl rfl, ?_⟩ | refine ⟨Or.inr ⟨_, rfl⟩, ?_⟩ | refine ⟨fun _ => ?_, fun h => absurd h (by decide)⟩ | refine ⟨fun h => absurd h (by decide), fun _ => ?_⟩)
        refine ⟨_, _, i, mg_Ai rfl (by decide), mg_ixN (by omega), by omega, Or.inl rfl, rfl, ?_, hX1⟩
        show _ = (Sum.inl (some (.int (if i < 2 then _ else _))) : Option Value ⊕ String)
        split
        · rename_i h2
          rcases (show i = 0 ∨ i = 1 by omega) with rfl | rfl
          · exact congrArg (fun x => (Sum.inl (some (Value.int x)) : Option Value ⊕ String)) (hgr1.2.1 156 (Or.inl rfl)).1
          · exact congrArg (fun x => (Sum.inl (some (Value.int x)) : Option Value ⊕ String)) (hgr1.2.1 156 (Or.inl rfl)).2
        · exact congrArg (fun x => (Sum.inl (some (Value.int x)) : Option Value ⊕ String)) (hgr1.2.2 i (by omega) hi).1
      · refine mg_go [] 60 50 ms_267 ?_
        refine ⟨by decide, fun h => absurd h (by decide), fun h => absurd h (by decide), fun _ => ?_, fun h => absurd h (by decide), fun h => absurd h (by decide), fun h => absurd h (by decide), trivial⟩
        repeat (first | refine ⟨_, mg_Fs rfl rfl, ?_⟩ | refine ⟨_, mg_Fd rfl rfl, ?_⟩ | refine ⟨Or.inl rfl, ?_⟩ | refine ⟨Or.inr ⟨_, rfl⟩, ?_⟩ | refine ⟨fun _ => ?_, fun h => absurd h (by decide)⟩ | refine ⟨fun h => absurd h (by decide), fun _ => ?_⟩)
        refine ⟨_, _, i, mg_Ai rfl (by decide), mg_ixN (by omega), by omega, Or.inl rfl, rfl, ?_, hX1⟩
        show _ = (Sum.inl (some (.int (if i < 2 then _ else _))) : Option Value ⊕ String)
        split
        · rename_i h2
          rcases (show i = 0 ∨ i = 1 by omega) with rfl | rfl
          · exact congrArg (fun x => (Sum.inl (some (Value.int x)) : Option Value ⊕ String)) (hgr1.2.1 157 (Or.inr (Or.inl rfl))).1
          · exact congrArg (fun x => (Sum.inl (some (Value.int x)) : Option Value ⊕ String)) (hgr1.2.1 157 (Or.inr (Or.inl rfl))).2
        · exact congrArg (fun x => (Sum.inl (some (Value.int x)) : Option Value ⊕ String)) (hgr1.2.2 i (by omega) hi).2.1
      · refine mg_go [] 60 50 ms_267 ?_
        refine ⟨by decide, fun h => absurd h (by decide), fun h => absurd h (by decide), fun h => absurd h (by decide), fun _ => ?_, fun h => absurd h (by decide), fun h => absurd h (by decide), trivial⟩
        repeat (first | refine ⟨_, mg_Fs rfl rfl, ?_⟩ | refine ⟨_, mg_Fd rfl rfl, ?_⟩ | refine ⟨Or.inl rfl, ?_⟩ | refine ⟨Or.inr ⟨_, rfl⟩, ?_⟩ | refine ⟨fun _ => ?_, fun h => absurd h (by decide)⟩ | refine ⟨fun h => absurd h (by decide), fun _ => ?_⟩)
        refine ⟨_, _, i, mg_Ai rfl (by decide), mg_ixN (by omega), by omega, Or.inl rfl, rfl, ?_, hX1⟩
        show _ = (Sum.inl (some (.int (if i < 2 then _ else _))) : Option Value ⊕ String)
        split
        · rename_i h2
          rcases (show i = 0 ∨ i = 1 by omega) with rfl | rfl
          · exact congrArg (fun x => (Sum.inl (some (Value.int x)) : Option Value ⊕ String)) (hgr1.2.1 158 (Or.inr (Or.inr rfl))).1
          · exact congrArg (fun x => (Sum.inl (some (Value.int x)) : Option Value ⊕ String)) (hgr1.2.1 158 (Or.inr (Or.inr rfl))).2
        · exact congrArg (fun x => (Sum.inl (some (Value.int x)) : Option Value ⊕ String)) (hgr1.2.2 i (by omega) hi).2.2
      · refine mg_go [108] 60 50 ms_267 ?_
        refine ⟨by decide, fun h => absurd h (by decide), fun h => absurd h (by decide), fun h => absurd h (by decide), fun h => absurd h (by decide), fun _ => ?_, fun h => absurd h (by decide), trivial⟩
        refine mg_loop (gN (aG A) - 2) (fun k L G' => L = [some (.ref 148), some (.int (Int32.ofNat i)), some (.int (Int32.ofNat 3)), some (.int (a_sum (fun q => if gO (aG A) (q + 2) = i ∨ gH (aG A) (q + 2) = i then 1 else 0) k)), some (.int (Int32.ofNat (k + 2)))] ∧ G' = mg_sF G1 148 10 (.int 0)) ?_ ?_ _ _ ⟨rfl, rfl⟩
        · rintro k L G' hk2 ⟨rfl, rfl⟩ ih
          obtain ⟨q1, q2, q3, -, -⟩ := hg.2.2.2.2 (k + 2) (by omega) (by omega)
          obtain ⟨e1, e2, e3⟩ := hgr1.2.2 (k + 2) (by omega) (by omega)
          have es : a_sum (fun q => if gO (aG A) (q + 2) = i ∨ gH (aG A) (q + 2) = i then (1 : Int32) else 0) (k + 1) = a_sum (fun q => if gO (aG A) (q + 2) = i ∨ gH (aG A) (q + 2) = i then 1 else 0) k + (if gO (aG A) (k + 2) = i ∨ gH (aG A) (k + 2) = i then 1 else 0) := rfl
          rw [es, ← mg_inc (k + 2)] at ih
          have e2 : G1.1 157 (k + 2) = Int32.ofNat (gO (aG A) (k + 2)) := e2
          have e3 : G1.1 158 (k + 2) = Int32.ofNat (gH (aG A) (k + 2)) := e3
          refine mg_go [108] 60 108 ms_267 ?_
          refine ⟨_, mg_Fe hgr1.1 rfl rfl, fun h => absurd h (mg_nle (by omega) (by omega)), fun _ => ?_⟩
          repeat (first | refine ⟨_, mg_Fs rfl rfl, ?_⟩ | refine ⟨_, mg_Fd rfl rfl, ?_⟩ | refine ⟨Or.inl rfl, ?_⟩ | refine ⟨Or.inr ⟨_, rfl⟩, ?_⟩ | refine ⟨fun _ => ?_, fun h => absurd h (by decide)⟩ | refine ⟨fun h => absurd h (by decide), fun _ => ?_⟩)
          refine ⟨_, _, k + 2, mg_Ai rfl (by decide), mg_ixN (by omega), by omega, ?_⟩
          rw [e2]
          refine ⟨fun h => ?_, fun h => ?_⟩
          · have h := (mg_eqN (by omega) (by omega)).mp h
            rw [if_pos (Or.inl h)] at ih
            exact ih _ _ ⟨rfl, rfl⟩
          · have h1 : gO (aG A) (k + 2) ≠ i := fun q => h (by rw [q])
            repeat (first | refine ⟨_, mg_Fs rfl rfl, ?_⟩ | refine ⟨_, mg_Fd rfl rfl, ?_⟩ | refine ⟨Or.inl rfl, ?_⟩ | refine ⟨Or.inr ⟨_, rfl⟩, ?_⟩ | refine ⟨fun _ => ?_, fun h => absurd h (by decide)⟩ | refine ⟨fun h => absurd h (by decide), fun _ => ?_⟩)
            refine ⟨_, _, k + 2, mg_Ai rfl (by decide), mg_ixN (by omega), by omega, ?_⟩
            rw [e3]
            refine ⟨fun h => ?_, fun h => ?_⟩
            · have h2 : gH (aG A) (k + 2) ≠ i := fun q => h (by rw [q])
              rw [if_neg (by rintro (q | q); exact h1 q; exact h2 q)] at ih
              exact ih _ _ ⟨rfl, rfl⟩
            · have h := (mg_eqN (by omega) (by omega)).mp h
              rw [if_pos (Or.inr h)] at ih
              exact ih _ _ ⟨rfl, rfl⟩
        · rintro L G' ⟨rfl, rfl⟩
          rw [show gN (aG A) - 2 + 2 = gN (aG A) by omega]
          refine mg_go [] 60 108 ms_267 ?_
          exact ⟨_, mg_Fe hgr1.1 rfl rfl, fun _ => ⟨Or.inl rfl, rfl, rfl, hX1⟩, fun h => absurd h (Int32.not_lt.mpr (Int32.le_refl _))⟩
      · refine mg_go [158] 60 50 ms_267 ?_
        refine ⟨by decide, fun h => absurd h (by decide), fun h => absurd h (by decide), fun h => absurd h (by decide), fun h => absurd h (by decide), fun h => absurd h (by decide), fun _ => ?_, trivial⟩
        refine mg_loop (aF A) (fun k L G' => L = [some (.ref 148), some (.int (Int32.ofNat i)), some (.int (Int32.ofNat 4)), some (.int (a_sum (fun f => b2 (g_rc (aG A) (aV A) (aR A f) i)) k)), some (.int (Int32.ofNat k))] ∧ ∃ f', G' = gM (mg_sF G1 148 10 (.int 0)) 162 f') ?_ ?_ _ _ ⟨rfl, _, (show mg_sF G1 148 10 (.int 0) = (mg_u G1.1 162 (G1.1 162), (mg_sF G1 148 10 (.int 0)).2) by rw [mg_u_id])⟩
        · rintro k L G' hk2 ⟨rfl, f', rfl⟩ ih
          have es : a_sum (fun f => b2 (g_rc (aG A) (aV A) (aR A f) i)) (k + 1) = a_sum (fun f => b2 (g_rc (aG A) (aV A) (aR A f) i)) k + b2 (g_rc (aG A) (aV A) (aR A k) i) := rfl
          rw [es, ← mg_inc k] at ih
          obtain ⟨e1, e2⟩ := hr k hk2
          have hI2 : rI (gM (mg_sF G1 148 10 (.int 0)) 162 f') A := hI1.gM f' (by decide)
          have hgr2 := hgr1.u f' (show 158 < 162 by decide)
          have e1' : (gM (mg_sF G1 148 10 (.int 0)) 162 f').1 159 k = Int32.ofNat (aR A k) := (congrFun (mg_u_ne G1.1 f' (show (159 : Nat) ≠ 162 by decide)) k).trans e1
          refine mg_go [158] 60 158 ms_267 ?_
          repeat (first | refine ⟨_, mg_Fs rfl rfl, ?_⟩ | refine ⟨_, mg_Fd rfl rfl, ?_⟩ | refine ⟨Or.inl rfl, ?_⟩ | refine ⟨Or.inr ⟨_, rfl⟩, ?_⟩ | refine ⟨fun _ => ?_, fun h => absurd h (by decide)⟩ | refine ⟨fun h => absurd h (by decide), fun _ => ?_⟩)
          refine mg_cv (r179n d hI2.f) (by omega) ?_
          refine ⟨fun h => absurd h (mg_nle (by omega) (by omega)), fun _ => ?_⟩
          repeat (first | refine ⟨_, mg_Fs rfl rfl, ?_⟩ | refine ⟨_, mg_Fd rfl rfl, ?_⟩ | refine ⟨Or.inl rfl, ?_⟩ | refine ⟨Or.inr ⟨_, rfl⟩, ?_⟩ | refine ⟨fun _ => ?_, fun h => absurd h (by decide)⟩ | refine ⟨fun h => absurd h (by decide), fun _ => ?_⟩)
          refine mg_m_mono (r203 hgr2 hg 162 (Or.inl rfl) d k _ (by omega) e1' e2) (by omega) ?_
          rintro o q G2 ⟨rfl, rfl, f2, rfl, hf2⟩
          have eg : gM (gM (mg_sF G1 148 10 (.int 0)) 162 f') 162 f2 = gM (mg_sF G1 148 10 (.int 0)) 162 f2 := by
            show (mg_u (mg_u G1.1 162 f') 162 f2, _) = (mg_u G1.1 162 f2, _)
            congr 1
            funext b
            unfold mg_u
            split <;> rfl
          rw [eg]
          repeat (first | refine ⟨_, mg_Fs rfl rfl, ?_⟩ | refine ⟨_, mg_Fd rfl rfl, ?_⟩ | refine ⟨Or.inl rfl, ?_⟩ | refine ⟨Or.inr ⟨_, rfl⟩, ?_⟩ | refine ⟨fun _ => ?_, fun h => absurd h (by decide)⟩ | refine ⟨fun h => absurd h (by decide), fun _ => ?_⟩)
          refine ⟨3, 1000, f2, i, gM_A _ f2 rfl (by decide), Or.inr rfl, mg_ixN (by omega), by omega, ?_⟩
          rw [hf2 i hi]
          cases hb : g_rc (aG A) (aV A) (aR A k) i with
          | false =>
            rw [hb] at ih
            exact ⟨fun _ => ih _ _ ⟨rfl, f2, rfl⟩, fun h => absurd rfl h⟩
          | true =>
            rw [hb] at ih
            exact ⟨fun h => absurd h (by decide), fun _ => ih _ _ ⟨rfl, f2, rfl⟩⟩
        · rintro L G' ⟨rfl, f', rfl⟩
          have hI2 : rI (gM (mg_sF G1 148 10 (.int 0)) 162 f') A := hI1.gM f' (by decide)
          refine mg_go [] 60 158 ms_267 ?_
          repeat (first | refine ⟨_, mg_Fs rfl rfl, ?_⟩ | refine ⟨_, mg_Fd rfl rfl, ?_⟩ | refine ⟨Or.inl rfl, ?_⟩ | refine ⟨Or.inr ⟨_, rfl⟩, ?_⟩ | refine ⟨fun _ => ?_, fun h => absurd h (by decide)⟩ | refine ⟨fun h => absurd h (by decide), fun _ => ?_⟩)
          refine mg_cv (r179n d hI2.f) (by omega) ?_
          exact ⟨fun _ => ⟨Or.inl rfl, rfl, rfl, hX1.u f' (by decide)⟩, fun h => absurd h (Int32.not_lt.mpr (Int32.le_refl _))⟩
      · refine mg_go [205] 60 50 ms_267 ?_
        refine ⟨by decide, fun _ => ?_, fun h => absurd h (by decide), fun h => absurd h (by decide), fun h => absurd h (by decide), fun h => absurd h (by decide), fun h => absurd h (by decide), trivial⟩
        refine mg_loop (aF A) (fun k L G' => L = [some (.ref 148), some (.int (Int32.ofNat i)), some (.int (Int32.ofNat 5)), some (.int (a_sum (fun f => if aR A f = i then 1 else 0) k)), some (.int (Int32.ofNat k))] ∧ G' = mg_sF G1 148 10 (.int 0)) ?_ ?_ _ _ ⟨rfl, rfl⟩
        · rintro k L G' hk2 ⟨rfl, rfl⟩ ih
          have es : a_sum (fun f => if aR A f = i then (1 : Int32) else 0) (k + 1) = a_sum (fun f => if aR A f = i then 1 else 0) k + (if aR A k = i then 1 else 0) := rfl
          rw [es, ← mg_inc k] at ih
          obtain ⟨e1, e2⟩ := hr k hk2
          refine mg_go [205] 60 205 ms_267 ?_
          repeat (first | refine ⟨_, mg_Fs rfl rfl, ?_⟩ | refine ⟨_, mg_Fd rfl rfl, ?_⟩ | refine ⟨Or.inl rfl, ?_⟩ | refine ⟨Or.inr ⟨_, rfl⟩, ?_⟩ | refine ⟨fun _ => ?_, fun h => absurd h (by decide)⟩ | refine ⟨fun h => absurd h (by decide), fun _ => ?_⟩)
          refine mg_cv (r179n d hI1.f) (by omega) ?_
          refine ⟨fun h => absurd h (mg_nle (by omega) (by omega)), fun _ => ?_⟩
          repeat (first | refine ⟨_, mg_Fs rfl rfl, ?_⟩ | refine ⟨_, mg_Fd rfl rfl, ?_⟩ | refine ⟨Or.inl rfl, ?_⟩ | refine ⟨Or.inr ⟨_, rfl⟩, ?_⟩ | refine ⟨fun _ => ?_, fun h => absurd h (by decide)⟩ | refine ⟨fun h => absurd h (by decide), fun _ => ?_⟩)
          refine ⟨_, _, k, mg_Ai rfl (by decide), mg_ixN (by omega), by omega, ?_⟩
          rw [e1]
          refine ⟨fun h => ?_, fun h => ?_⟩
          · rw [if_neg (fun q => h (by rw [q]))] at ih
            exact ih _ _ ⟨rfl, rfl⟩
          · have h := (mg_eqN (by omega) (by omega)).mp h
            rw [if_pos h] at ih
            exact ih _ _ ⟨rfl, rfl⟩
        · rintro L G' ⟨rfl, rfl⟩
          refine mg_go [] 60 205 ms_267 ?_
          repeat (first | refine ⟨_, mg_Fs rfl rfl, ?_⟩ | refine ⟨_, mg_Fd rfl rfl, ?_⟩ | refine ⟨Or.inl rfl, ?_⟩ | refine ⟨Or.inr ⟨_, rfl⟩, ?_⟩ | refine ⟨fun _ => ?_, fun h => absurd h (by decide)⟩ | refine ⟨fun h => absurd h (by decide), fun _ => ?_⟩)
          refine mg_cv (r179n d hI1.f) (by omega) ?_
          exact ⟨fun _ => ⟨Or.inl rfl, rfl, rfl, hX1⟩, fun h => absurd h (Int32.not_lt.mpr (Int32.le_refl _))⟩
end RM
