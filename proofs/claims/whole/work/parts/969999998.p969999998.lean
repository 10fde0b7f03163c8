/-! CLASS: pairs -/
section KC
variable {scr : Nat × (Nat → Int32)} {t : List mg_S} {G : mg_G} {S : a_S} {A : a_A} {M : List pP} {a b : Nat}
/-- the memory behind a pair that is added at slot q -/
def cG9 (G : mg_G) (q n k : Nat) : mg_G := mg_sI (mg_sF (mg_sI G 132 n (Int32.ofNat k)) 122 11 (.int (Int32.ofNat n + Int32.ofInt 1))) 131 q (Int32.ofNat n + Int32.ofInt 1)
theorem cG9_F (G : mg_G) (q n k : Nat) : cF9 G (cG9 G q n k) := by
  refine ⟨((mg_fr.sI (p := fun a => a = 122 ∨ a = 131 ∨ a = 132) G _ _ (by decide)).tr (mg_fr.sF _ _ _ (by decide))).tr (mg_fr.sI _ _ _ (by decide)), ?_, rfl, rfl, rfl, fun j hj => mg_sF_ne _ _ (by omega)⟩
  exact (mg_sI_nb (mg_sF (mg_sI G 132 n (Int32.ofNat k)) 122 11 (.int (Int32.ofNat n + Int32.ofInt 1))) q (Int32.ofNat n + Int32.ofInt 1) (show (122 : Nat) ≠ 131 by decide)).trans (mg_sI_nb G n (Int32.ofNat k) (show (122 : Nat) ≠ 132 by decide))
theorem cG9_Q {sl : Nat → Nat} {e0 : Nat} (h11 : G.2.2.2.2 122 11 = .int (Int32.ofNat M.length)) (hM : ∀ i z, M[i]? = some z → G.1 132 i = Int32.ofNat (628 * z.1 + z.2)) (hS : ∀ q, q < 1024 → G.1 131 q = Int32.ofNat (sl q)) (hH : a_hs 1024 1 pHs M sl) (he : e0 < 1024) (h0 : sl ((pHs (a, b) + e0) % 1024) = 0) (hne : ∀ e2, e2 < e0 → sl ((pHs (a, b) + e2) % 1024) ≠ 0) : cQ9 (cG9 G ((pHs (a, b) + e0) % 1024) M.length (628 * a + b)) (M ++ [(a, b)]) := by
  refine ⟨?_, fun i z hi => ?_, _, fun q hq => ?_, a_hs_add hH he h0 hne (by decide)⟩
  · refine (mg_sF_at (mg_sI G 132 M.length (Int32.ofNat (628 * a + b))) 122 11 _).trans (congrArg Value.int ?_)
    rw [List.length_append, mg_inc]
    rfl
  · refine (congrFun (mg_sI_nb (mg_sF (mg_sI G 132 M.length (Int32.ofNat (628 * a + b))) 122 11 (.int (Int32.ofNat M.length + Int32.ofInt 1))) ((pHs (a, b) + e0) % 1024) (Int32.ofNat M.length + Int32.ofInt 1) (show (132 : Nat) ≠ 131 by decide)) i).trans ?_
    by_cases hl : i < M.length
    · rw [List.getElem?_append_left hl] at hi
      exact (mg_sI_ne G 132 M.length _ (by omega)).trans (hM i z hi)
    · have hi2 := (List.getElem?_eq_some_iff.mp hi).1
      rw [List.length_append, List.length_singleton] at hi2
      have ei : i = M.length := by omega
      subst ei
      rw [List.getElem?_append_right (Nat.le_refl _), Nat.sub_self] at hi
      cases Option.some.inj hi
      exact mg_sI_eq G 132 M.length _
  · show mg_u2 (mg_u2 G.1 132 M.length (Int32.ofNat (628 * a + b))) 131 ((pHs (a, b) + e0) % 1024) (Int32.ofNat M.length + Int32.ofInt 1) 131 q = _
    rw [mg_u2_at]
    by_cases e : q = (pHs (a, b) + e0) % 1024
    · rw [if_pos ⟨rfl, e⟩, if_pos e, Nat.add_comm, mg_inc]
    · rw [if_neg (fun h => e h.2), if_neg e, mg_u2_at, if_neg (fun h => absurd h.1 (by decide))]
      exact hS q hq
/-- the slots are looked through -/
theorem c23s (d : Nat) (ha : a < 628) (hb : b < 628) (hMb : ∀ y, y ∈ M → y.1 < 628 ∧ y.2 < 628) (hlen : M.length ≤ 259) {sl : Nat → Nat} (hM : ∀ i z, M[i]? = some z → G.1 132 i = Int32.ofNat (628 * z.1 + z.2)) (hS : ∀ q, q < 1024 → G.1 131 q = Int32.ofNat (sl q)) (hH : a_hs 1024 1 pHs M sl) (hnd : M.Nodup) {e0 : Nat} (h1 : e0 < 1024) (h0 : sl ((pHs (a, b) + e0) % 1024) = 0) (hne : ∀ e2, e2 < e0 → sl ((pHs (a, b) + e2) % 1024) ≠ 0) {Q : mg_Q} (kf : (a, b) ∈ M → Q (.inl none) 0 G) (kn : (a, b) ∉ M → mg_wp (mg_KC scr t) mc_23 d 73 [some (.ref 122), some (.int (Int32.ofNat a)), some (.int (Int32.ofNat b)), some (.int (Int32.ofNat (628 * a + b))), some (.int (Int32.ofNat ((pHs (a, b) + e0) % 1024))), some (.int (Int32.ofNat e0))] [] G Q) : ∀ m e1, e1 + m = e0 → (∀ e2, e2 < e1 → ∀ i, sl ((pHs (a, b) + e2) % 1024) = 1 + i → M[i]? ≠ some (a, b)) → mg_wp (mg_KC scr t) mc_23 d 20 [some (.ref 122), some (.int (Int32.ofNat a)), some (.int (Int32.ofNat b)), some (.int (Int32.ofNat (628 * a + b))), some (.int (Int32.ofNat ((pHs (a, b) + e1) % 1024))), some (.int (Int32.ofNat e1))] [] G Q := by
  intro m
  induction m with
  | zero =>
    intro e1 he hw9
    have ee : e1 = e0 := by omega
    subst ee
    have hq : (pHs (a, b) + e1) % 1024 < 1024 := Nat.mod_lt _ (by decide)
    refine mg_go [20, 73] 60 20 ms_23 ?_
    refine ⟨fun h => absurd h (mg_nle (b := 1024) h1 (by decide)), fun _ => ?_⟩
    repeat (first | refine ⟨_, mg_Fs rfl rfl, ?_⟩ | refine ⟨Or.inl rfl, ?_⟩ | refine ⟨Or.inr ⟨_, rfl⟩, ?_⟩ | refine ⟨fun _ => ?_, fun h => absurd h (by decide)⟩ | refine ⟨fun h => absurd h (by decide), fun _ => ?_⟩)
    refine ⟨1024, _, _, mg_Ai rfl (by decide), mg_ixN (by omega), hq, ?_⟩
    rw [hS _ hq, h0]
    exact ⟨fun _ => kn (a_hs_not hH hnd h0 hw9 (by decide)), fun h => absurd rfl h⟩
  | succ m ih =>
    intro e1 he hw9
    have hq : (pHs (a, b) + e1) % 1024 < 1024 := Nat.mod_lt _ (by decide)
    have hz := hne e1 (by omega)
    obtain ⟨i, U, hi, hi2⟩ := a_hs_at hH hq hz
    have hil : i < M.length := (List.getElem?_eq_some_iff.mp hi).1
    have hv : G.1 131 ((pHs (a, b) + e1) % 1024) = Int32.ofNat (i + 1) := by rw [hS _ hq, hi2, Nat.add_comm]
    obtain ⟨u1, u2⟩ := hMb U (List.mem_of_getElem? hi)
    refine mg_go [20, 73] 80 20 ms_23 ?_
    refine ⟨fun h => absurd h (mg_nle (b := 1024) (a := e1) (by omega) (by decide)), fun _ => ?_⟩
    repeat (first | refine ⟨_, mg_Fs rfl rfl, ?_⟩ | refine ⟨Or.inl rfl, ?_⟩ | refine ⟨Or.inr ⟨_, rfl⟩, ?_⟩ | refine ⟨fun _ => ?_, fun h => absurd h (by decide)⟩ | refine ⟨fun h => absurd h (by decide), fun _ => ?_⟩)
    refine ⟨1024, _, _, mg_Ai rfl (by decide), mg_ixN (by omega), hq, ?_⟩
    rw [hv]
    refine ⟨fun h => ?_, fun _ => ?_⟩
    · exfalso
      have := (mg_eqN (by omega) (by omega)).mp (show Int32.ofNat (i + 1) = Int32.ofNat 0 from h)
      omega
    repeat (first | refine ⟨_, mg_Fs rfl rfl, ?_⟩ | refine ⟨Or.inl rfl, ?_⟩ | refine ⟨Or.inr ⟨_, rfl⟩, ?_⟩ | refine ⟨fun _ => ?_, fun h => absurd h (by decide)⟩ | refine ⟨fun h => absurd h (by decide), fun _ => ?_⟩)
    refine ⟨1024, _, _, mg_Ai rfl (by decide), mg_ixN (by omega), hq, ?_⟩
    rw [hv]
    refine ⟨259, _, i, mg_Ai rfl (by decide), mg_ixE (mg_dec i) (by omega), by omega, ?_⟩
    rw [hM i U hi]
    refine ⟨fun h => ?_, fun h => ?_⟩
    · have nU : U ≠ (a, b) := fun q => h (by rw [q])
      have := ih (e1 + 1) (by omega) (fun e2 h2 i2 h3 h4 => by
        rcases Nat.lt_or_eq_of_le (Nat.le_of_lt_succ h2) with h5 | rfl
        · exact hw9 e2 h5 i2 h3 h4
        · have : i2 = i := by omega
          subst this
          rw [hi] at h4
          exact nU (Option.some.inj h4))
      rw [show (pHs (a, b) + (e1 + 1)) % 1024 = ((pHs (a, b) + e1) % 1024 + 1) % 1024 by omega, ← mg_nxtC _ hq, ← mg_inc e1] at this
      exact this
    · have h := (mg_eqN (by omega) (by omega)).mp h
      have eU : U = (a, b) := Prod.ext (by omega) (by omega)
      refine kf ?_
      rw [← eU]
      exact List.mem_of_getElem? hi
theorem c23 (d : Nat) (hQ : cQ9 G M) (hnd : M.Nodup) (hMb : ∀ y, y ∈ M → y.1 < 628 ∧ y.2 < 628) (hlen : (pA M (a, b)).length ≤ 259) (ha : a < 628) (hb : b < 628) : mg_m (mg_KC scr t) (d + 1) 23 [.ref 122, .int (Int32.ofNat a), .int (Int32.ofNat b)] G (fun o q G' => o = .inl none ∧ q = 0 ∧ cQ9 G' (pA M (a, b)) ∧ cF9 G G') := by
  obtain ⟨h11, hM, sl, hS, hH⟩ := hQ
  have hlM : M.length ≤ 259 := by
    unfold pA at hlen
    split at hlen
    · exact hlen
    · rw [List.length_append] at hlen
      omega
  obtain ⟨e0, h1, h0, hne⟩ := a_hs_free hH (by omega) (pHs (a, b))
  have hh := pHs_lt (a, b)
  have ek : Int32.ofNat a * (Int16.ofInt 628).toInt32 + Int32.ofNat b = Int32.ofNat (628 * a + b) := by rw [mg_628, ← Int32.ofNat_mul, mg_addN, Nat.mul_comm]
  have es : ((Int32.ofNat (628 * a + b) * Int32.ofInt (-1640531535)).toUInt32 >>> (((Int8.ofInt 22).toInt32).toUInt32 &&& Int32.toUInt32 31)).toInt32 = Int32.ofNat ((pHs (a, b) + 0) % 1024) := by
    rw [pHs_i, Nat.add_zero, Nat.mod_eq_of_lt hh]
    rfl
  have main : mg_wp (mg_KC scr t) mc_23 d 20 [some (.ref 122), some (.int (Int32.ofNat a)), some (.int (Int32.ofNat b)), some (.int (Int32.ofNat (628 * a + b))), some (.int (Int32.ofNat ((pHs (a, b) + 0) % 1024))), some (.int (Int32.ofNat 0))] [] G (fun o q G' => o = .inl none ∧ q = 0 ∧ cQ9 G' (pA M (a, b)) ∧ cF9 G G') := by
    refine c23s d ha hb hMb hlM hM hS hH hnd h1 h0 hne (fun hm => ?_) (fun hm => ?_) e0 0 (Nat.zero_add _) (fun e2 h => absurd h (Nat.not_lt_zero _))
    · unfold pA
      rw [if_pos hm]
      exact ⟨rfl, rfl, ⟨h11, hM, sl, hS, hH⟩, cF9.rf G⟩
    · unfold pA at hlen ⊢
      rw [if_neg hm] at hlen ⊢
      rw [List.length_append, List.length_singleton] at hlen
      have hq : (pHs (a, b) + e0) % 1024 < 1024 := Nat.mod_lt _ (by decide)
      refine mg_go [] 60 73 ms_23 ?_
      refine ⟨_, mg_Fe h11 rfl rfl, fun q => absurd q (mg_nle (b := 259) (by omega) (by decide)), fun _ => ?_⟩
      repeat (first | refine ⟨_, mg_Fs rfl rfl, ?_⟩ | refine ⟨Or.inl rfl, ?_⟩ | refine ⟨Or.inr ⟨_, rfl⟩, ?_⟩ | refine ⟨fun _ => ?_, fun h => absurd h (by decide)⟩ | refine ⟨fun h => absurd h (by decide), fun _ => ?_⟩)
      refine ⟨_, mg_Fe h11 rfl rfl, 259, M.length, rfl, mg_ixN (by omega), by omega, ?_⟩
      refine ⟨_, mg_Fe h11 rfl rfl, rfl, _, rfl, rfl, ?_⟩
      repeat (first | refine ⟨_, mg_Fs rfl rfl, ?_⟩ | refine ⟨Or.inl rfl, ?_⟩ | refine ⟨Or.inr ⟨_, rfl⟩, ?_⟩ | refine ⟨fun _ => ?_, fun h => absurd h (by decide)⟩ | refine ⟨fun h => absurd h (by decide), fun _ => ?_⟩)
      refine ⟨_, mg_Fe (mg_sF_at _ _ _ _) rfl rfl, 1024, _, rfl, mg_ixN (by omega), hq, ?_⟩
      exact ⟨rfl, rfl, cG9_Q h11 hM hS hH h1 h0 hne, cG9_F _ _ _ _⟩
  have key : ∀ x y : Int32, x = Int32.ofNat (628 * a + b) → y = Int32.ofNat ((pHs (a, b) + 0) % 1024) → mg_wp (mg_KC scr t) mc_23 d 20 [some (.ref 122), some (.int (Int32.ofNat a)), some (.int (Int32.ofNat b)), some (.int x), some (.int y), some (.int (Int32.ofNat 0))] [] G (fun o q G' => o = .inl none ∧ q = 0 ∧ cQ9 G' (pA M (a, b)) ∧ cF9 G G') := by
    rintro _ _ rfl rfl
    exact main
  refine mg_me [20] 60 my_23 ms_23 (Nat.le_of_ble_eq_true rfl) ?_
  refine key _ _ ek ?_
  show ((((Int32.ofNat a * (Int16.ofInt 628).toInt32 + Int32.ofNat b) * Int32.ofInt (-1640531535)).toUInt32 >>> (((Int8.ofInt 22).toInt32).toUInt32 &&& Int32.toUInt32 31)).toInt32) = _
  rw [ek]
  exact es
/-- a pair's children are met -/
def pF9 (g : a_Gr) (nv : Nat) (M : List pP) (z : pP) : List pP := if pL g z < nv then pA (pA M (pO g z)) (pH g z) else M
theorem c24 (d : Nat) {z : pP} (hC : cGr G 122 (aV A) (aG A)) (hg : gW (aV A) (aG A)) (hQ : cQ9 G M) (hnd : M.Nodup) (hR : ∀ y, y ∈ M → pR (aG A) z y) (hy : pR (aG A) z (a, b)) : mg_m (mg_KC scr t) (d + 2) 24 [.ref 122, .int (Int32.ofNat a), .int (Int32.ofNat b)] G (fun o q G' => o = .inl none ∧ q = 0 ∧ cQ9 G' (pF9 (aG A) (aV A) M (a, b)) ∧ cF9 G G') := by
  have h628 := hg.2.1
  have h8 := hg.2.2.1
  have ha : a < gN (aG A) := hy.1.1
  have hb : b < gN (aG A) := hy.1.2
  have la := hg.le ha
  have lb := hg.le hb
  have ea := hC.2.2.1 a ha
  have eb := hC.2.2.1 b hb
  have hm : pL (aG A) (a, b) = if gL (aG A) a ≤ gL (aG A) b then gL (aG A) a else gL (aG A) b := rfl
  have emin : (if Int32.ofNat (gL (aG A) b) < Int32.ofNat (gL (aG A) a) then Int32.ofNat (gL (aG A) b) else Int32.ofNat (gL (aG A) a)) = Int32.ofNat (pL (aG A) (a, b)) := by
    rw [hm]
    by_cases q : gL (aG A) a ≤ gL (aG A) b
    · rw [if_pos q, if_neg (mg_nlt q (by omega))]
    · rw [if_neg q, if_pos ((mg_ltN (by omega) (by omega)).mpr (by omega))]
  have hb628 : ∀ L : List pP, (∀ y, y ∈ L → pR (aG A) z y) → ∀ y, y ∈ L → y.1 < 628 ∧ y.2 < 628 := fun L h y hyL => ⟨Nat.lt_of_lt_of_le (h y hyL).1.1 h628, Nat.lt_of_lt_of_le (h y hyL).1.2 h628⟩
  have st : ∀ Q : mg_Q, mg_wp (mg_KC scr t) mc_24 (d + 1) 16 [some (.ref 122), some (.int (Int32.ofNat a)), some (.int (Int32.ofNat b)), some (.int (Int32.ofNat (pL (aG A) (a, b)))), none, none] [] G Q → mg_m (mg_KC scr t) (d + 2) 24 [.ref 122, .int (Int32.ofNat a), .int (Int32.ofNat b)] G Q := fun Q g => by
    rw [← emin] at g
    refine mg_me [16] 60 my_24 ms_24 (Nat.le_of_ble_eq_true rfl) ?_
    repeat (first | refine ⟨_, mg_Fs rfl rfl, ?_⟩ | refine ⟨Or.inl rfl, ?_⟩ | refine ⟨Or.inr ⟨_, rfl⟩, ?_⟩ | refine ⟨fun _ => ?_, fun h => absurd h (by decide)⟩ | refine ⟨fun h => absurd h (by decide), fun _ => ?_⟩)
    refine ⟨628, _, a, mg_Ai rfl (by decide), mg_ixN (by omega), by omega, ?_⟩
    rw [show G.1 125 a = Int32.ofNat (gL (aG A) a) from ea]
    repeat (first | refine ⟨_, mg_Fs rfl rfl, ?_⟩ | refine ⟨Or.inl rfl, ?_⟩ | refine ⟨Or.inr ⟨_, rfl⟩, ?_⟩ | refine ⟨fun _ => ?_, fun h => absurd h (by decide)⟩ | refine ⟨fun h => absurd h (by decide), fun _ => ?_⟩)
    refine ⟨628, _, b, mg_Ai rfl (by decide), mg_ixN (by omega), by omega, ?_⟩
    rw [show G.1 125 b = Int32.ofNat (gL (aG A) b) from eb]
    refine ⟨Nat.le_of_ble_eq_true rfl, ?_⟩
    exact g
  refine st _ ?_
  unfold pF9
  by_cases hl : pL (aG A) (a, b) < aV A
  · rw [if_pos hl]
    obtain ⟨⟨i1, l1⟩, i2, l2⟩ := pC hg hy.1 hl
    obtain ⟨r1, r2⟩ := pR_O hg hy hl
    obtain ⟨m1, m2, m3, m4, m5⟩ := pA_ok hnd hR r1
    obtain ⟨n1, n2, n3, n4, n5⟩ := pA_ok m1 m2 r2
    have ko : mg_m (mg_KC scr t) (d + 1) 23 [.ref 122, .int (Int32.ofNat (pO (aG A) (a, b)).1), .int (Int32.ofNat (pO (aG A) (a, b)).2)] G (fun o q G' => o = .inl none ∧ q = 0 ∧ cQ9 G' (pA M (pO (aG A) (a, b))) ∧ cF9 G G') := c23 d hQ hnd (hb628 M hR) (p_259 hg m1 m2) (Nat.lt_of_lt_of_le i1.1 h628) (Nat.lt_of_lt_of_le i1.2 h628)
    have kh : ∀ G2, cQ9 G2 (pA M (pO (aG A) (a, b))) → mg_m (mg_KC scr t) (d + 1) 23 [.ref 122, .int (Int32.ofNat (pH (aG A) (a, b)).1), .int (Int32.ofNat (pH (aG A) (a, b)).2)] G2 (fun o q G' => o = .inl none ∧ q = 0 ∧ cQ9 G' (pA (pA M (pO (aG A) (a, b))) (pH (aG A) (a, b))) ∧ cF9 G2 G') := fun G2 hQ2 => c23 d hQ2 m1 (hb628 _ m2) (p_259 hg n1 n2) (Nat.lt_of_lt_of_le i2.1 h628) (Nat.lt_of_lt_of_le i2.2 h628)
    have arr : ∀ G2, cF9 G G2 → ∀ k, 2 ≤ k → k < gN (aG A) → G2.1 126 k = Int32.ofNat (gO (aG A) k) ∧ G2.1 127 k = Int32.ofNat (gH (aG A) k) := fun G2 hF2 k h2 hk => (hF2.g hC).2.2.2.2 k h2 hk
    have go : ∀ b1 b2' : Bool, b1 = decide (gL (aG A) a ≤ gL (aG A) b) → b2' = decide (gL (aG A) b ≤ gL (aG A) a) → mg_wp (mg_KC scr t) mc_24 (d + 1) 58 [some (.ref 122), some (.int (Int32.ofNat a)), some (.int (Int32.ofNat b)), some (.int (Int32.ofNat (pL (aG A) (a, b)))), some (.int (b2 b1)), some (.int (b2 b2'))] [] G (fun o q G' => o = .inl none ∧ q = 0 ∧ cQ9 G' (pA (pA M (pO (aG A) (a, b))) (pH (aG A) (a, b))) ∧ cF9 G G') := fun b1 b2' e1 e2 => by
      by_cases q1 : gL (aG A) a ≤ gL (aG A) b
      · have a2 : 2 ≤ a := hg.in (by rw [hm, if_pos q1] at hl; exact hl)
        by_cases q2 : gL (aG A) b ≤ gL (aG A) a
        · have b2 : 2 ≤ b := hg.in (by rw [hm, if_pos q1] at hl; omega)
          rw [decide_eq_true q1] at e1
          rw [decide_eq_true q2] at e2
          subst e1 e2
          have o1 : (pO (aG A) (a, b)).1 = gO (aG A) a := if_pos q1
          have o2 : (pO (aG A) (a, b)).2 = gO (aG A) b := if_pos q2
          have h1 : (pH (aG A) (a, b)).1 = gH (aG A) a := if_pos q1
          have h2 : (pH (aG A) (a, b)).2 = gH (aG A) b := if_pos q2
          rw [o1, o2] at ko
          refine mg_go [] 90 58 ms_24 ?_
          refine ⟨fun q => absurd q (by decide), fun _ => ?_⟩
          repeat (first | refine ⟨_, mg_Fs rfl rfl, ?_⟩ | refine ⟨Or.inl rfl, ?_⟩ | refine ⟨Or.inr ⟨_, rfl⟩, ?_⟩ | refine ⟨fun _ => ?_, fun h => absurd h (by decide)⟩ | refine ⟨fun h => absurd h (by decide), fun _ => ?_⟩)
          refine ⟨628, _, a, mg_Ai rfl (by decide), mg_ixN (by omega), by omega, ?_⟩
          rw [(arr _ (cF9.rf _) a a2 ha).1]
          refine ⟨fun q => absurd q (by decide), fun _ => ?_⟩
          repeat (first | refine ⟨_, mg_Fs rfl rfl, ?_⟩ | refine ⟨Or.inl rfl, ?_⟩ | refine ⟨Or.inr ⟨_, rfl⟩, ?_⟩ | refine ⟨fun _ => ?_, fun h => absurd h (by decide)⟩ | refine ⟨fun h => absurd h (by decide), fun _ => ?_⟩)
          refine ⟨628, _, b, mg_Ai rfl (by decide), mg_ixN (by omega), by omega, ?_⟩
          rw [(arr _ (cF9.rf _) b b2 hb).1]
          repeat (first | refine ⟨_, mg_Fs rfl rfl, ?_⟩ | refine ⟨Or.inl rfl, ?_⟩ | refine ⟨Or.inr ⟨_, rfl⟩, ?_⟩ | refine ⟨fun _ => ?_, fun h => absurd h (by decide)⟩ | refine ⟨fun h => absurd h (by decide), fun _ => ?_⟩)
          refine mg_m_mono (ko) (by omega) ?_
          rintro o q G2 ⟨rfl, rfl, hQ2, hF2⟩
          have kh2 := kh G2 hQ2
          rw [h1, h2] at kh2
          refine ⟨fun q => absurd q (by decide), fun _ => ?_⟩
          repeat (first | refine ⟨_, mg_Fs rfl rfl, ?_⟩ | refine ⟨Or.inl rfl, ?_⟩ | refine ⟨Or.inr ⟨_, rfl⟩, ?_⟩ | refine ⟨fun _ => ?_, fun h => absurd h (by decide)⟩ | refine ⟨fun h => absurd h (by decide), fun _ => ?_⟩)
          refine ⟨628, _, a, mg_Ai rfl (by decide), mg_ixN (by omega), by omega, ?_⟩
          rw [(arr _ hF2 a a2 ha).2]
          refine ⟨fun q => absurd q (by decide), fun _ => ?_⟩
          repeat (first | refine ⟨_, mg_Fs rfl rfl, ?_⟩ | refine ⟨Or.inl rfl, ?_⟩ | refine ⟨Or.inr ⟨_, rfl⟩, ?_⟩ | refine ⟨fun _ => ?_, fun h => absurd h (by decide)⟩ | refine ⟨fun h => absurd h (by decide), fun _ => ?_⟩)
          refine ⟨628, _, b, mg_Ai rfl (by decide), mg_ixN (by omega), by omega, ?_⟩
          rw [(arr _ hF2 b b2 hb).2]
          repeat (first | refine ⟨_, mg_Fs rfl rfl, ?_⟩ | refine ⟨Or.inl rfl, ?_⟩ | refine ⟨Or.inr ⟨_, rfl⟩, ?_⟩ | refine ⟨fun _ => ?_, fun h => absurd h (by decide)⟩ | refine ⟨fun h => absurd h (by decide), fun _ => ?_⟩)
          refine mg_m_mono (kh2) (by omega) ?_
          rintro o q G3 ⟨rfl, rfl, hQ3, hF3⟩
          exact ⟨rfl, rfl, hQ3, hF2.tr hF3⟩
        · rw [decide_eq_true q1] at e1
          rw [decide_eq_false q2] at e2
          subst e1 e2
          have o1 : (pO (aG A) (a, b)).1 = gO (aG A) a := if_pos q1
          have o2 : (pO (aG A) (a, b)).2 = b := if_neg q2
          have h1 : (pH (aG A) (a, b)).1 = gH (aG A) a := if_pos q1
          have h2 : (pH (aG A) (a, b)).2 = b := if_neg q2
          rw [o1, o2] at ko
          refine mg_go [] 90 58 ms_24 ?_
          refine ⟨fun q => absurd q (by decide), fun _ => ?_⟩
          repeat (first | refine ⟨_, mg_Fs rfl rfl, ?_⟩ | refine ⟨Or.inl rfl, ?_⟩ | refine ⟨Or.inr ⟨_, rfl⟩, ?_⟩ | refine ⟨fun _ => ?_, fun h => absurd h (by decide)⟩ | refine ⟨fun h => absurd h (by decide), fun _ => ?_⟩)
          refine ⟨628, _, a, mg_Ai rfl (by decide), mg_ixN (by omega), by omega, ?_⟩
          rw [(arr _ (cF9.rf _) a a2 ha).1]
          refine ⟨fun _ => ?_, fun q => absurd rfl q⟩
          repeat (first | refine ⟨_, mg_Fs rfl rfl, ?_⟩ | refine ⟨Or.inl rfl, ?_⟩ | refine ⟨Or.inr ⟨_, rfl⟩, ?_⟩ | refine ⟨fun _ => ?_, fun h => absurd h (by decide)⟩ | refine ⟨fun h => absurd h (by decide), fun _ => ?_⟩)
          refine mg_m_mono (ko) (by omega) ?_
          rintro o q G2 ⟨rfl, rfl, hQ2, hF2⟩
          have kh2 := kh G2 hQ2
          rw [h1, h2] at kh2
          refine ⟨fun q => absurd q (by decide), fun _ => ?_⟩
          repeat (first | refine ⟨_, mg_Fs rfl rfl, ?_⟩ | refine ⟨Or.inl rfl, ?_⟩ | refine ⟨Or.inr ⟨_, rfl⟩, ?_⟩ | refine ⟨fun _ => ?_, fun h => absurd h (by decide)⟩ | refine ⟨fun h => absurd h (by decide), fun _ => ?_⟩)
          refine ⟨628, _, a, mg_Ai rfl (by decide), mg_ixN (by omega), by omega, ?_⟩
          rw [(arr _ hF2 a a2 ha).2]
          refine ⟨fun _ => ?_, fun q => absurd rfl q⟩
          repeat (first | refine ⟨_, mg_Fs rfl rfl, ?_⟩ | refine ⟨Or.inl rfl, ?_⟩ | refine ⟨Or.inr ⟨_, rfl⟩, ?_⟩ | refine ⟨fun _ => ?_, fun h => absurd h (by decide)⟩ | refine ⟨fun h => absurd h (by decide), fun _ => ?_⟩)
          refine mg_m_mono (kh2) (by omega) ?_
          rintro o q G3 ⟨rfl, rfl, hQ3, hF3⟩
          exact ⟨rfl, rfl, hQ3, hF2.tr hF3⟩
      · have q2 : gL (aG A) b ≤ gL (aG A) a := by omega
        have b2 : 2 ≤ b := hg.in (by rw [hm, if_neg q1] at hl; exact hl)
        rw [decide_eq_false q1] at e1
        rw [decide_eq_true q2] at e2
        subst e1 e2
        have o1 : (pO (aG A) (a, b)).1 = a := if_neg q1
        have o2 : (pO (aG A) (a, b)).2 = gO (aG A) b := if_pos q2
        have h1 : (pH (aG A) (a, b)).1 = a := if_neg q1
        have h2 : (pH (aG A) (a, b)).2 = gH (aG A) b := if_pos q2
        rw [o1, o2] at ko
        refine mg_go [] 90 58 ms_24 ?_
        refine ⟨fun _ => ?_, fun q => absurd rfl q⟩
        refine ⟨fun q => absurd q (by decide), fun _ => ?_⟩
        repeat (first | refine ⟨_, mg_Fs rfl rfl, ?_⟩ | refine ⟨Or.inl rfl, ?_⟩ | refine ⟨Or.inr ⟨_, rfl⟩, ?_⟩ | refine ⟨fun _ => ?_, fun h => absurd h (by decide)⟩ | refine ⟨fun h => absurd h (by decide), fun _ => ?_⟩)
        refine ⟨628, _, b, mg_Ai rfl (by decide), mg_ixN (by omega), by omega, ?_⟩
        rw [(arr _ (cF9.rf _) b b2 hb).1]
        repeat (first | refine ⟨_, mg_Fs rfl rfl, ?_⟩ | refine ⟨Or.inl rfl, ?_⟩ | refine ⟨Or.inr ⟨_, rfl⟩, ?_⟩ | refine ⟨fun _ => ?_, fun h => absurd h (by decide)⟩ | refine ⟨fun h => absurd h (by decide), fun _ => ?_⟩)
        refine mg_m_mono (ko) (by omega) ?_
        rintro o q G2 ⟨rfl, rfl, hQ2, hF2⟩
        have kh2 := kh G2 hQ2
        rw [h1, h2] at kh2
        refine ⟨fun _ => ?_, fun q => absurd rfl q⟩
        refine ⟨fun q => absurd q (by decide), fun _ => ?_⟩
        repeat (first | refine ⟨_, mg_Fs rfl rfl, ?_⟩ | refine ⟨Or.inl rfl, ?_⟩ | refine ⟨Or.inr ⟨_, rfl⟩, ?_⟩ | refine ⟨fun _ => ?_, fun h => absurd h (by decide)⟩ | refine ⟨fun h => absurd h (by decide), fun _ => ?_⟩)
        refine ⟨628, _, b, mg_Ai rfl (by decide), mg_ixN (by omega), by omega, ?_⟩
        rw [(arr _ hF2 b b2 hb).2]
        repeat (first | refine ⟨_, mg_Fs rfl rfl, ?_⟩ | refine ⟨Or.inl rfl, ?_⟩ | refine ⟨Or.inr ⟨_, rfl⟩, ?_⟩ | refine ⟨fun _ => ?_, fun h => absurd h (by decide)⟩ | refine ⟨fun h => absurd h (by decide), fun _ => ?_⟩)
        refine mg_m_mono (kh2) (by omega) ?_
        rintro o q G3 ⟨rfl, rfl, hQ3, hF3⟩
        exact ⟨rfl, rfl, hQ3, hF2.tr hF3⟩
    have c1 : gL (aG A) a = pL (aG A) (a, b) ↔ gL (aG A) a ≤ gL (aG A) b := by
      rw [hm]
      by_cases q : gL (aG A) a ≤ gL (aG A) b
      · rw [if_pos q]
        exact ⟨fun _ => q, fun _ => rfl⟩
      · rw [if_neg q]
        omega
    have c2 : gL (aG A) b = pL (aG A) (a, b) ↔ gL (aG A) b ≤ gL (aG A) a := by
      rw [hm]
      by_cases q : gL (aG A) a ≤ gL (aG A) b
      · rw [if_pos q]
        omega
      · rw [if_neg q]
        omega
    refine mg_go [58] 90 16 ms_24 ?_
    refine ⟨_, mg_Fe hC.2.1 rfl rfl, fun q => absurd q (mg_nle hl (by omega)), fun _ => ?_⟩
    repeat (first | refine ⟨_, mg_Fs rfl rfl, ?_⟩ | refine ⟨Or.inl rfl, ?_⟩ | refine ⟨Or.inr ⟨_, rfl⟩, ?_⟩ | refine ⟨fun _ => ?_, fun h => absurd h (by decide)⟩ | refine ⟨fun h => absurd h (by decide), fun _ => ?_⟩)
    refine ⟨628, _, a, mg_Ai rfl (by decide), mg_ixN (by omega), by omega, ?_⟩
    rw [show G.1 125 a = Int32.ofNat (gL (aG A) a) from ea]
    refine ⟨fun q1 => ?_, fun q1 => ?_⟩
    · repeat (first | refine ⟨_, mg_Fs rfl rfl, ?_⟩ | refine ⟨Or.inl rfl, ?_⟩ | refine ⟨Or.inr ⟨_, rfl⟩, ?_⟩ | refine ⟨fun _ => ?_, fun h => absurd h (by decide)⟩ | refine ⟨fun h => absurd h (by decide), fun _ => ?_⟩)
      refine ⟨628, _, b, mg_Ai rfl (by decide), mg_ixN (by omega), by omega, ?_⟩
      rw [show G.1 125 b = Int32.ofNat (gL (aG A) b) from eb]
      refine ⟨fun q2 => ?_, fun q2 => ?_⟩
      · exfalso
        have n1 : ¬ gL (aG A) a ≤ gL (aG A) b := fun h => q1 (by rw [c1.mpr h])
        have n2 : ¬ gL (aG A) b ≤ gL (aG A) a := fun h => q2 (by rw [c2.mpr h])
        omega
      · have q2 := (mg_eqN (by omega) (by omega)).mp q2
        exact go false true (decide_eq_false (fun h => q1 (by rw [c1.mpr h]))).symm (decide_eq_true (c2.mp q2)).symm
    · have q1 := (mg_eqN (by omega) (by omega)).mp q1
      repeat (first | refine ⟨_, mg_Fs rfl rfl, ?_⟩ | refine ⟨Or.inl rfl, ?_⟩ | refine ⟨Or.inr ⟨_, rfl⟩, ?_⟩ | refine ⟨fun _ => ?_, fun h => absurd h (by decide)⟩ | refine ⟨fun h => absurd h (by decide), fun _ => ?_⟩)
      refine ⟨628, _, b, mg_Ai rfl (by decide), mg_ixN (by omega), by omega, ?_⟩
      rw [show G.1 125 b = Int32.ofNat (gL (aG A) b) from eb]
      refine ⟨fun q2 => ?_, fun q2 => ?_⟩
      · exact go true false (decide_eq_true (c1.mp q1)).symm (decide_eq_false (fun h => q2 (by rw [c2.mpr h]))).symm
      · have q2 := (mg_eqN (by omega) (by omega)).mp q2
        exact go true true (decide_eq_true (c1.mp q1)).symm (decide_eq_true (c2.mp q2)).symm
  · rw [if_neg hl]
    refine mg_go [58] 90 16 ms_24 ?_
    refine ⟨_, mg_Fe hC.2.1 rfl rfl, fun _ => ?_, fun q => absurd q (mg_nlt (by omega) (by have := pL_le hg hy.1; omega))⟩
    exact ⟨rfl, rfl, hQ, cF9.rf G⟩
end KC
