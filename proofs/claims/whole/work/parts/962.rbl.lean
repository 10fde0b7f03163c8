/-! REFERENCE: texts that are written -/
def sWS (S : a_S) (w : List Nat) : a_S := (sA S, sU S, sV S, sIn S, sC S, sP S, w)
def p327 (S : a_S) (f : Int32) : a_S × qR := pF S f fun f => (sWS S (w_fs (sA S) f (gN (aG (sA S)) - 2)), (0, Int32.ofNat (w_fs (sA S) f (gN (aG (sA S)) - 2)).length))
def p328 (S : a_S) : a_S × qR := (sWS S (w_or (sA S) (aV (sA S))), (0, Int32.ofNat (w_or (sA S) (aV (sA S))).length))
def q329 (S : a_S) (i : Int32) : qR := match vi i (sW S).length with
  | none => (1, 0)
  | some i => (0, Int32.ofNat (((sW S)[i]?).getD 0))
/-- only the written text is changed -/
def rWc (G G' : mg_G) : Prop := (∀ b, b ≠ 153 → G'.1 b = G.1 b) ∧ G'.2.1 = G.2.1 ∧ G'.2.2.1 = G.2.2.1 ∧ G'.2.2.2.1 = G.2.2.2.1 ∧ ∀ b k, ¬ (b = 148 ∧ k = 9) → G'.2.2.2.2 b k = G.2.2.2.2 b k
theorem rWc.rf (G : mg_G) : rWc G G := ⟨fun _ _ => rfl, rfl, rfl, rfl, fun _ _ _ => rfl⟩
theorem rWc.tr {G G' G'' : mg_G} (h : rWc G G') (h2 : rWc G' G'') : rWc G G'' :=
  ⟨fun b hb => (h2.1 b hb).trans (h.1 b hb), h2.2.1.trans h.2.1, h2.2.2.1.trans h.2.2.1, h2.2.2.2.1.trans h.2.2.2.1, fun b k hb => (h2.2.2.2.2 b k hb).trans (h.2.2.2.2 b k hb)⟩
theorem rWc.F {G G' : mg_G} (h : rWc G G') : rF G G' := fun b hb => ⟨h.1 b (by omega), congrFun h.2.1 b, congrFun h.2.2.1 b, congrFun h.2.2.2.1 b, funext fun k => h.2.2.2.2 b k (by omega)⟩
theorem rT.wr {G G' : mg_G} {S : a_S} (h : rT G S) (hc : rWc G G') {w : List Nat} (hw : rWr G' w) : rT G' (sWS S w) := by
  obtain ⟨g1, g2, g3, g4, g5, ⟨g6, g7⟩, g8⟩ := h
  obtain ⟨c1, c2, c3, c4, c5⟩ := hc
  have bb : ∀ {c : Nat} {B : a_A}, bS G c B → bS G' c B := fun {c B} q => ⟨q.1.c (c1 149 (by decide)) (by rw [c2]), q.2⟩
  exact ⟨fun v hv => by rw [c2]; exact g1 v hv, bb g2, ⟨(c5 148 3 (by decide)).trans g3.1, g3.2.1, fun i B hi => bb (g3.2.2 i B hi)⟩, fun s hs => ⟨by rw [c1 151 (by decide)]; exact (g4 s hs).1, fun B hB => bb ((g4 s hs).2 B hB)⟩, ⟨(c5 148 5 (by decide)).trans g5.1, g5.2.1, fun i c hi => by rw [c1 152 (by decide)]; exact g5.2.2 i c hi⟩, ⟨(c5 148 6 (by decide)).trans g6, (c5 148 7 (by decide)).trans g7⟩, hw⟩
theorem rWc.I {G G' : mg_G} {A : a_A} (h : rWc G G') (hI : rI G A) : rI G' A := ⟨fun v hv => by rw [h.2.1]; exact hI.1 v hv, hI.2.1.c (h.1 149 (by decide)) (by rw [h.2.1]), hI.2.2⟩
theorem rWc.gr {G G' : mg_G} {ord : Nat → Nat} {g : a_Gr} (h : rWc G G') (hR : rGr G ord g) : rGr G' ord g :=
  ⟨(h.2.2.2.2 148 16 (by decide)).trans hR.1, fun b hb => by rw [h.1 b (by omega)]; exact hR.2.1 b hb, fun k h1 h2 => by rw [h.1 156 (by decide), h.1 157 (by decide), h.1 158 (by decide)]; exact hR.2.2 k h1 h2⟩
theorem mg_num : ∀ n, n < 1000 → (Int8.ofInt 48).toInt32 + Int32.ofNat n / (Int8.ofInt 100).toInt32 = Int32.ofNat (48 + n / 100) ∧ (Int8.ofInt 48).toInt32 + (Int32.ofNat n / (Int8.ofInt 10).toInt32 - Int32.ofNat n / (Int8.ofInt 10).toInt32 / (Int8.ofInt 10).toInt32 * (Int8.ofInt 10).toInt32) = Int32.ofNat (48 + n / 10 % 10) ∧ (Int8.ofInt 48).toInt32 + (Int32.ofNat n - Int32.ofNat n / (Int8.ofInt 10).toInt32 * (Int8.ofInt 10).toInt32) = Int32.ofNat (48 + n % 10) := by decide +kernel
section RM
variable {scr : Nat × (Nat → Int32)} {t : List mg_S} {G : mg_G} {A : a_A} {S : a_S} {l : List Nat}
/-- what writing w behind l leaves -/
def rWQ (G : mg_G) (l : List Nat) : mg_Q := fun o q G' => o = .inl none ∧ q = 0 ∧ rWr G' l ∧ rWc G G'
theorem r324 (d : Nat) (hW : rWr G l) (hl : l.length < 1600) {b : Nat} (hb : b < 128) : mg_m (mg_KM scr t) (d + 1) 324 [.ref 148, .int (Int32.ofNat b)] G (rWQ G (l ++ [b])) := by
  obtain ⟨h1, h2, h3⟩ := hW
  refine mg_me [] 60 my_324 ms_324 (Nat.le_of_ble_eq_true rfl) ?_
  refine ⟨_, mg_Fs rfl rfl, _, mg_Fe h1 rfl rfl, 2000, l.length, rfl, mg_ixN (by omega), by omega, ?_⟩
  refine ⟨_, mg_Fe h1 rfl rfl, rfl, _, rfl, rfl, rfl, rfl, ⟨?_, by rw [List.length_append]; exact hl, fun i c hi => ?_⟩, fun c hc => mg_u2_ne _ _ _ hc, rfl, rfl, rfl, fun c k hc => (mg_u2_at _ _ _ _ _ _).trans (if_neg hc)⟩
  · refine (mg_sF_at _ _ _ _).trans ?_
    show Value.int (Int32.ofNat l.length + Int32.ofInt 1) = _
    rw [mg_inc, List.length_append]
    rfl
  · show mg_u2 G.1 153 l.length (Int32.ofNat b) 153 i = _ ∧ _
    rw [mg_u2_same]
    by_cases q : i = l.length
    · subst q
      rw [List.getElem?_append_right (Nat.le_refl _), Nat.sub_self] at hi
      have := Option.some.inj hi
      subst this
      exact ⟨mg_u_eq _ _ _, hb⟩
    · have hl2 := (List.getElem?_eq_some_iff.mp hi).1
      rw [List.length_append] at hl2
      have hl2 : i < l.length + 1 := hl2
      rw [List.getElem?_append_left (by omega)] at hi
      rw [mg_u_ne _ _ q]
      exact h3 i c hi
/-- another write behind one -/
theorem rWQ.s {K : mg_K} {d d' y : Nat} {As : List Value} {G0 G : mg_G} {l' : List Nat} (h : mg_m K d y As G (rWQ G l')) (hc : rWc G0 G) (hd : d ≤ d') {Q : mg_Q} (hQ : ∀ G', rWr G' l' → rWc G0 G' → Q (.inl none) 0 G') : mg_m K d' y As G Q := by
  refine mg_m_mono h hd ?_
  rintro o q G' ⟨rfl, rfl, h1, h2⟩
  exact hQ G' h1 (hc.tr h2)
theorem r325 (d : Nat) (hW : rWr G l) (hl : l.length + 3 ≤ 1600) {n : Nat} (hn : n < 1000) : mg_m (mg_KM scr t) (d + 2) 325 [.ref 148, .int (Int32.ofNat n)] G (rWQ G (l ++ w_num n)) := by
  obtain ⟨e1, e2, e3⟩ := mg_num n hn
  have last : ∀ (G1 : mg_G) (l1 : List Nat), rWr G1 l1 → rWc G G1 → l1.length < 1600 → mg_wp (mg_KM scr t) mc_325 (d + 1) 37 [some (.ref 148), some (.int (Int32.ofNat n))] [] G1 (rWQ G (l1 ++ [48 + n % 10])) := fun G1 l1 h1 hc hl1 => by
    have k1 := r324 (scr := scr) (t := t) d h1 hl1 (show 48 + n % 10 < 128 by omega)
    rw [← e3] at k1
    refine mg_go [] 60 37 ms_325 ?_
    repeat (first | refine ⟨_, mg_Fs rfl rfl, ?_⟩ | refine ⟨_, mg_Fd rfl rfl, ?_⟩ | refine ⟨Or.inl rfl, ?_⟩ | refine ⟨Or.inr ⟨_, rfl⟩, ?_⟩ | refine ⟨fun _ => ?_, fun h => absurd h (by decide)⟩ | refine ⟨fun h => absurd h (by decide), fun _ => ?_⟩)
    refine rWQ.s k1 hc (by omega) fun G2 h2 hc2 => ?_
    exact ⟨rfl, rfl, h2, hc2⟩
  have mid : ∀ (G1 : mg_G) (l1 : List Nat), rWr G1 l1 → rWc G G1 → l1.length + 2 ≤ 1600 → mg_wp (mg_KM scr t) mc_325 (d + 1) 17 [some (.ref 148), some (.int (Int32.ofNat n))] [] G1 (rWQ G (l1 ++ (if 10 ≤ n then [48 + n / 10 % 10] else []) ++ [48 + n % 10])) := fun G1 l1 h1 hc hl1 => by
    refine mg_go [37] 60 17 ms_325 ?_
    refine ⟨fun h => ?_, fun h => ?_⟩
    · have h := (mg_ltN (b := 10) (by omega) (by decide)).mp h
      rw [if_neg (by omega), List.append_nil]
      exact last G1 l1 h1 hc (by omega)
    · have h := (mg_leN (a := 10) (by decide) (by omega)).mp h
      rw [if_pos h]
      have k1 := r324 (scr := scr) (t := t) d h1 (by omega) (show 48 + n / 10 % 10 < 128 by omega)
      rw [← e2] at k1
      repeat (first | refine ⟨_, mg_Fs rfl rfl, ?_⟩ | refine ⟨_, mg_Fd rfl rfl, ?_⟩ | refine ⟨Or.inl rfl, ?_⟩ | refine ⟨Or.inr ⟨_, rfl⟩, ?_⟩ | refine ⟨fun _ => ?_, fun h => absurd h (by decide)⟩ | refine ⟨fun h => absurd h (by decide), fun _ => ?_⟩)
      refine rWQ.s k1 hc (by omega) fun G2 h2 hc2 => ?_
      exact last G2 _ h2 hc2 (by rw [List.length_append]; show l1.length + 1 < 1600; omega)
  unfold w_num
  rw [← List.append_assoc, ← List.append_assoc]
  refine mg_me [17] 60 my_325 ms_325 (Nat.le_of_ble_eq_true rfl) ?_
  refine ⟨fun h => ?_, fun h => ?_⟩
  · have h := (mg_ltN (b := 100) (by omega) (by decide)).mp h
    rw [if_neg (by omega), List.append_nil]
    exact mid G l hW (rWc.rf G) (by omega)
  · have h := (mg_leN (a := 100) (by decide) (by omega)).mp h
    rw [if_pos h]
    have k1 := r324 (scr := scr) (t := t) d hW (by omega) (show 48 + n / 100 < 128 by omega)
    rw [← e1] at k1
    repeat (first | refine ⟨_, mg_Fs rfl rfl, ?_⟩ | refine ⟨_, mg_Fd rfl rfl, ?_⟩ | refine ⟨Or.inl rfl, ?_⟩ | refine ⟨Or.inr ⟨_, rfl⟩, ?_⟩ | refine ⟨fun _ => ?_, fun h => absurd h (by decide)⟩ | refine ⟨fun h => absurd h (by decide), fun _ => ?_⟩)
    refine rWQ.s k1 (rWc.rf G) (by omega) fun G2 h2 hc2 => ?_
    exact mid G2 _ h2 hc2 (by rw [List.length_append]; show l.length + 1 + 2 ≤ 1600; omega)
theorem r326 (d : Nat) (hI : rI G A) (hW : rWr G l) {v : Nat} (hv : v < aV A) (hl : l.length + 7 ≤ 1600) : mg_m (mg_KM scr t) (d + 2) 326 [.ref 148, .int (Int32.ofNat v)] G (rWQ G (l ++ aVN A v)) := by
  have h8 := hI.v8
  obtain ⟨⟨w1, w2⟩, -⟩ := hI.W.2.2.2.2.1 v hv
  have e8 : ∀ a : Nat, (Int8.ofInt 26).toInt32 + (Int8.ofInt 8).toInt32 * Int32.ofNat a = Int32.ofNat (26 + 8 * a) := fun a => by rw [Int32.ofNat_add, Int32.ofNat_mul]; rfl
  have e9 : ∀ a b : Nat, (Int8.ofInt 26).toInt32 + (Int8.ofInt 8).toInt32 * Int32.ofNat a + Int32.ofInt 1 + Int32.ofNat b = Int32.ofNat (26 + 8 * a + 1 + b) := fun a b => by rw [Int32.ofNat_add, Int32.ofNat_add, e8]; rfl
  refine mg_me [2] 60 my_326 ms_326 (Nat.le_of_ble_eq_true rfl) ?_
  refine mg_loop (aVN A v).length (fun k L G' => L = [some (.ref 148), some (.int (Int32.ofNat v)), some (.int (Int32.ofNat k))] ∧ rWr G' (l ++ (aVN A v).take k) ∧ rWc G G') ?_ ?_ _ _ ⟨rfl, by rw [List.take_zero, List.append_nil]; exact hW, rWc.rf G⟩
  · rintro k L G' hk ⟨rfl, h1, hc⟩ ih
    obtain ⟨n1, n2⟩ := (hc.I hI).vn hv
    obtain ⟨c, hc1⟩ : ∃ c, (aVN A v)[k]? = some c := ⟨_, List.getElem?_eq_getElem hk⟩
    have hc3 := w1 c (List.mem_of_getElem? hc1)
    refine mg_go [2] 60 2 ms_326 ?_
    repeat (first | refine ⟨_, mg_Fs rfl rfl, ?_⟩ | refine ⟨_, mg_Fd rfl rfl, ?_⟩ | refine ⟨Or.inl rfl, ?_⟩ | refine ⟨Or.inr ⟨_, rfl⟩, ?_⟩ | refine ⟨fun _ => ?_, fun h => absurd h (by decide)⟩ | refine ⟨fun h => absurd h (by decide), fun _ => ?_⟩)
    refine ⟨_, _, 26 + 8 * v, mg_Ai rfl (by decide), mg_ixE (e8 v) (by omega), by omega, ?_⟩
    rw [n1]
    refine ⟨fun h => absurd h (mg_nle hk (by omega)), fun _ => ?_⟩
    repeat (first | refine ⟨_, mg_Fs rfl rfl, ?_⟩ | refine ⟨_, mg_Fd rfl rfl, ?_⟩ | refine ⟨Or.inl rfl, ?_⟩ | refine ⟨Or.inr ⟨_, rfl⟩, ?_⟩ | refine ⟨fun _ => ?_, fun h => absurd h (by decide)⟩ | refine ⟨fun h => absurd h (by decide), fun _ => ?_⟩)
    refine ⟨_, _, 26 + 8 * v + 1 + k, mg_Ai rfl (by decide), mg_ixE (e9 v k) (by omega), by omega, ?_⟩
    rw [n2 k c hc1]
    repeat (first | refine ⟨_, mg_Fs rfl rfl, ?_⟩ | refine ⟨_, mg_Fd rfl rfl, ?_⟩ | refine ⟨Or.inl rfl, ?_⟩ | refine ⟨Or.inr ⟨_, rfl⟩, ?_⟩ | refine ⟨fun _ => ?_, fun h => absurd h (by decide)⟩ | refine ⟨fun h => absurd h (by decide), fun _ => ?_⟩)
    refine rWQ.s (r324 d h1 (by rw [List.length_append, List.length_take]; omega) (show c < 128 by omega)) hc (by omega) fun G2 h2 hc2 => ?_
    refine ih _ _ ⟨by rw [mg_inc k] <;> rfl, ?_, hc2⟩
    rw [List.take_succ, hc1, ← List.append_assoc]
    exact h2
  · rintro L G' ⟨rfl, h1, hc⟩
    obtain ⟨n1, n2⟩ := (hc.I hI).vn hv
    refine mg_go [] 60 2 ms_326 ?_
    repeat (first | refine ⟨_, mg_Fs rfl rfl, ?_⟩ | refine ⟨_, mg_Fd rfl rfl, ?_⟩ | refine ⟨Or.inl rfl, ?_⟩ | refine ⟨Or.inr ⟨_, rfl⟩, ?_⟩ | refine ⟨fun _ => ?_, fun h => absurd h (by decide)⟩ | refine ⟨fun h => absurd h (by decide), fun _ => ?_⟩)
    refine ⟨_, _, 26 + 8 * v, mg_Ai rfl (by decide), mg_ixE (e8 v) (by omega), by omega, ?_⟩
    rw [n1]
    refine ⟨fun _ => ⟨rfl, rfl, ?_, hc⟩, fun h => absurd h (Int32.not_lt.mpr (Int32.le_refl _))⟩
    rwa [List.take_length] at h1
theorem r328 (d : Nat) (hT : rT G S) : mg_m (mg_KM scr t) (d + 4) 328 [.ref 148] G (rAp G (p328 S)) := by
  have hI := hT.I
  have h8 := hI.v8
  have hW := hI.W
  have hT1 := hT.s10 (.int 0)
  unfold p328 rAp
  have hc0 : rWc (mg_sF G 148 10 (.int 0)) (mg_sF (mg_sF G 148 10 (.int 0)) 148 9 (.int (Int32.ofInt 0))) := ⟨fun _ _ => rfl, rfl, rfl, rfl, fun b k hb => mg_sF_ne _ _ hb⟩
  refine mg_me [12] 60 my_328 ms_328 (Nat.le_of_ble_eq_true rfl) ?_
  repeat (first | refine ⟨_, mg_Fs rfl rfl, ?_⟩ | refine ⟨_, mg_Fd rfl rfl, ?_⟩ | refine ⟨Or.inl rfl, ?_⟩ | refine ⟨Or.inr ⟨_, rfl⟩, ?_⟩ | refine ⟨fun _ => ?_, fun h => absurd h (by decide)⟩ | refine ⟨fun h => absurd h (by decide), fun _ => ?_⟩)
  refine ⟨rfl, _, rfl, rfl, rfl, _, rfl, rfl, ?_⟩
  refine mg_loop (aV (sA S)) (fun k L G' => L = [some (.ref 148), some (.int (Int32.ofNat k))] ∧ rWr G' (w_or (sA S) k) ∧ rWc (mg_sF G 148 10 (.int 0)) G') ?_ ?_ _ _ ⟨rfl, ⟨mg_sF_at _ _ _ _, (show ([] : List Nat).length ≤ 1600 from by decide), fun i c hi => by simp [w_or] at hi⟩, hc0⟩
  · rintro k L G' hk ⟨rfl, h1, hc⟩ ih
    have hI1 := hc.I hT1.I
    have hle := w_or_le hW k (by omega)
    have nm : ∀ (G2 : mg_G) (l2 : List Nat), rWr G2 l2 → rWc (mg_sF G 148 10 (.int 0)) G2 → l2.length + 7 ≤ 1600 → w_or (sA S) (k + 1) = l2 ++ aVN (sA S) (aD (sA S) k) → mg_wp (mg_KM scr t) mc_328 (d + 3) 30 [some (.ref 148), some (.int (Int32.ofNat k))] [] G2 (rAp G (sWS S (w_or (sA S) (aV (sA S))), (0, Int32.ofNat (w_or (sA S) (aV (sA S))).length))) := fun G2 l2 h2 hc2 hl2 he => by
      have hI2 := hc2.I hT1.I
      refine mg_go [12] 60 30 ms_328 ?_
      repeat (first | refine ⟨_, mg_Fs rfl rfl, ?_⟩ | refine ⟨_, mg_Fd rfl rfl, ?_⟩ | refine ⟨Or.inl rfl, ?_⟩ | refine ⟨Or.inr ⟨_, rfl⟩, ?_⟩ | refine ⟨fun _ => ?_, fun h => absurd h (by decide)⟩ | refine ⟨fun h => absurd h (by decide), fun _ => ?_⟩)
      refine ⟨_, _, 2 + k, mg_Ai rfl (by decide), mg_ixE (by rw [Int32.ofNat_add]; rfl) (by omega), by omega, ?_⟩
      rw [hI2.o hk]
      repeat (first | refine ⟨_, mg_Fs rfl rfl, ?_⟩ | refine ⟨_, mg_Fd rfl rfl, ?_⟩ | refine ⟨Or.inl rfl, ?_⟩ | refine ⟨Or.inr ⟨_, rfl⟩, ?_⟩ | refine ⟨fun _ => ?_, fun h => absurd h (by decide)⟩ | refine ⟨fun h => absurd h (by decide), fun _ => ?_⟩)
      refine rWQ.s (r326 d hI2 h2 (hW.2.1.1 k hk) hl2) hc2 (by omega) fun G3 h3 hc3 => ?_
      exact ih _ _ ⟨by rw [mg_inc k] <;> rfl, by rw [he]; exact h3, hc3⟩
    refine mg_go [30] 60 12 ms_328 ?_
    repeat (first | refine ⟨_, mg_Fs rfl rfl, ?_⟩ | refine ⟨_, mg_Fd rfl rfl, ?_⟩ | refine ⟨Or.inl rfl, ?_⟩ | refine ⟨Or.inr ⟨_, rfl⟩, ?_⟩ | refine ⟨fun _ => ?_, fun h => absurd h (by decide)⟩ | refine ⟨fun h => absurd h (by decide), fun _ => ?_⟩)
    refine mg_cv (r178n d hI1.v) (by omega) ?_
    refine ⟨fun h => absurd h (mg_nle (by omega) (by omega)), fun _ => ?_⟩
    refine ⟨fun h => ?_, fun h => ?_⟩
    · have h := (mg_leN (b := 0) (by omega) (by decide)).mp h
      refine nm G' _ h1 hc (by omega) ?_
      show w_or (sA S) k ++ (if 0 < k then [44] else []) ++ _ = _
      rw [if_neg (by omega), List.append_nil]
    · have h := (mg_ltN (a := 0) (by decide) (by omega)).mp h
      repeat (first | refine ⟨_, mg_Fs rfl rfl, ?_⟩ | refine ⟨_, mg_Fd rfl rfl, ?_⟩ | refine ⟨Or.inl rfl, ?_⟩ | refine ⟨Or.inr ⟨_, rfl⟩, ?_⟩ | refine ⟨fun _ => ?_, fun h => absurd h (by decide)⟩ | refine ⟨fun h => absurd h (by decide), fun _ => ?_⟩)
      refine rWQ.s (r324 d h1 (by omega) (show 44 < 128 by decide)) hc (by omega) fun G2 h2 hc2 => ?_
      refine nm G2 _ h2 hc2 (by rw [List.length_append]; show (w_or (sA S) k).length + 1 + 7 ≤ 1600; omega) ?_
      show w_or (sA S) k ++ (if 0 < k then [44] else []) ++ _ = _
      rw [if_pos h]
  · rintro L G' ⟨rfl, h1, hc⟩
    have hI1 := hc.I hT1.I
    refine mg_go [] 60 12 ms_328 ?_
    repeat (first | refine ⟨_, mg_Fs rfl rfl, ?_⟩ | refine ⟨_, mg_Fd rfl rfl, ?_⟩ | refine ⟨Or.inl rfl, ?_⟩ | refine ⟨Or.inr ⟨_, rfl⟩, ?_⟩ | refine ⟨fun _ => ?_, fun h => absurd h (by decide)⟩ | refine ⟨fun h => absurd h (by decide), fun _ => ?_⟩)
    refine mg_cv (r178n d hI1.v) (by omega) ?_
    refine ⟨fun _ => ⟨_, mg_Fe h1.1 rfl rfl, Or.inl rfl, rfl, rfl, (hc.2.2.2.2 148 10 (by decide)).trans (mg_sF_at _ _ _ _), hT1.wr hc h1, (rF.s G _ _).tr hc.F⟩, fun h => absurd h (Int32.not_lt.mpr (Int32.le_refl _))⟩
theorem r329 (d : Nat) (hT : rT G S) (i : Int32) : mg_m (mg_KM scr t) (d + 3) 329 [.ref 148, .int i] G (rA G S (q329 S i)) := by
  obtain ⟨h1, h2, h3⟩ := hT.2.2.2.2.2.2
  unfold q329
  cases hi : vi i (sW S).length with
  | none =>
    refine mg_me [] 60 my_329 ms_329 (Nat.le_of_ble_eq_true rfl) ?_
    refine ⟨_, mg_Fe h1 rfl rfl, ?_⟩
    repeat (first | refine ⟨_, mg_Fs rfl rfl, ?_⟩ | refine ⟨_, mg_Fd rfl rfl, ?_⟩ | refine ⟨Or.inl rfl, ?_⟩ | refine ⟨Or.inr ⟨_, rfl⟩, ?_⟩ | refine ⟨fun _ => ?_, fun h => absurd h (by decide)⟩ | refine ⟨fun h => absurd h (by decide), fun _ => ?_⟩)
    refine mg_cv (r177x d hi rfl (by omega)) (by omega) ?_
    repeat (first | refine ⟨_, mg_Fs rfl rfl, ?_⟩ | refine ⟨_, mg_Fd rfl rfl, ?_⟩ | refine ⟨Or.inl rfl, ?_⟩ | refine ⟨Or.inr ⟨_, rfl⟩, ?_⟩ | refine ⟨fun _ => ?_, fun h => absurd h (by decide)⟩ | refine ⟨fun h => absurd h (by decide), fun _ => ?_⟩)
    refine mg_cv (r176_1 d _ _) (by omega) ?_
    repeat (first | refine ⟨_, mg_Fs rfl rfl, ?_⟩ | refine ⟨_, mg_Fd rfl rfl, ?_⟩ | refine ⟨Or.inl rfl, ?_⟩ | refine ⟨Or.inr ⟨_, rfl⟩, ?_⟩ | refine ⟨fun _ => ?_, fun h => absurd h (by decide)⟩ | refine ⟨fun h => absurd h (by decide), fun _ => ?_⟩)
    exact rA_x hT rfl
  | some k =>
    obtain ⟨rfl, hk⟩ := vi_s hi
    obtain ⟨c, hc⟩ : ∃ c, (sW S)[k]? = some c := ⟨_, List.getElem?_eq_getElem hk⟩
    refine mg_me [] 60 my_329 ms_329 (Nat.le_of_ble_eq_true rfl) ?_
    refine ⟨_, mg_Fe h1 rfl rfl, ?_⟩
    repeat (first | refine ⟨_, mg_Fs rfl rfl, ?_⟩ | refine ⟨_, mg_Fd rfl rfl, ?_⟩ | refine ⟨Or.inl rfl, ?_⟩ | refine ⟨Or.inr ⟨_, rfl⟩, ?_⟩ | refine ⟨fun _ => ?_, fun h => absurd h (by decide)⟩ | refine ⟨fun h => absurd h (by decide), fun _ => ?_⟩)
    refine mg_cv (r177y d hi rfl (by omega)) (by omega) ?_
    repeat (first | refine ⟨_, mg_Fs rfl rfl, ?_⟩ | refine ⟨_, mg_Fd rfl rfl, ?_⟩ | refine ⟨Or.inl rfl, ?_⟩ | refine ⟨Or.inr ⟨_, rfl⟩, ?_⟩ | refine ⟨fun _ => ?_, fun h => absurd h (by decide)⟩ | refine ⟨fun h => absurd h (by decide), fun _ => ?_⟩)
    refine mg_cv (r176_0 d) (by omega) ?_
    repeat (first | refine ⟨_, mg_Fs rfl rfl, ?_⟩ | refine ⟨_, mg_Fd rfl rfl, ?_⟩ | refine ⟨Or.inl rfl, ?_⟩ | refine ⟨Or.inr ⟨_, rfl⟩, ?_⟩ | refine ⟨fun _ => ?_, fun h => absurd h (by decide)⟩ | refine ⟨fun h => absurd h (by decide), fun _ => ?_⟩)
    refine ⟨_, _, k, mg_Ai rfl (by decide), mg_ixN (by omega), by omega, Or.inl rfl, rfl, ?_, mg_sF_at _ _ _ _, hT.s10 _, rF.s _ _ _⟩
    show _ = (Sum.inl (some (.int (Int32.ofNat (((sW S)[k]?).getD 0)))) : Option Value ⊕ String)
    rw [hc]
    exact congrArg (fun x => (Sum.inl (some (Value.int x)) : Option Value ⊕ String)) (h3 k c hc).1
/-- what build leaves, with the nodes of the functions -/
theorem r201C (d : Nat) (hI : rI G A) : mg_m (mg_KM scr t) (d + aV A + 7) 201 [.ref 148] G (fun o q G' => q = 0 ∧ o = .inl (some (.int (Int32.ofNat (aN A).length))) ∧ rB G A G' ∧ aCl (aD A) (aV A) (aN A) ∧ ∀ f, f < aF A → a_nd (aN A) (aR A f) (aT A f)) := by
  have hW := hI.W
  have h8 := hI.v8
  have hN := hW.N
  have et : ∀ f, f < aF A → a_tb G f = aT A f := fun f hf => hI.t hf
  have eN : a_all (aD A) (aV A) (a_tb G) (aF A) = aN A := a_all_c et
  have hS : rS G (aD A) (aV A) (aF A) := ⟨hI.1, hI.v, by omega, hI.f, hI.f12, fun j hj => ⟨hI.o hj, hW.o8 j hj⟩⟩
  have hU : rU G (aD A) (aV A) (aF A) := fun f hf v hv h => by
    rw [et f hf] at h
    refine hW.2.1.2.1 v (Decidable.byContradiction fun q => ?_)
    rw [hW.2.2.2.1 f hf v hv (by omega)] at h
    cases h
  refine mg_m_mono (r201 (scr := scr) (t := t) d hS hU (by rw [eN]; omega)) (Nat.le_refl _) ?_
  rintro o q G' ⟨rfl, rfl, hA⟩
  have hgr := hA.gr
  have hcl := hA.cl
  have hA1 := hA.1
  have hA3 := hA.2.2.1
  rw [show a_tb (rO G (aV A)) = a_tb G from rfl, eN] at hgr hcl hA3 ⊢
  have nd : (aN A).Nodup := by rw [← eN]; exact a_all_nd _ _ _ _
  have nl : a_zero ∉ aN A ∧ a_one ∉ aN A := by rw [← eN]; exact a_all_nl _ _ _ _
  refine ⟨rfl, rfl, ⟨((rX.rf G).u (fun j => if j < aV A then G.1 149 (2 + j) else G.1 161 j) (z := 161) (by omega)).W hA1, hgr, a_gr_W hW.o8 (by omega) nd nl hN hcl, fun f hf => ?_, hN⟩, hcl, fun f hf => ?_⟩
  · obtain ⟨r, e1, e2⟩ := hA3 f hf
    rw [et f hf] at e2
    have e3 : aR A f = r := a_nd_ix e2 nd nl
    rw [e3]
    exact ⟨e1, a_nd_lt e2⟩
  · obtain ⟨r, e1, e2⟩ := hA3 f hf
    rw [et f hf] at e2
    have e3 : aR A f = r := a_nd_ix e2 nd nl
    rw [e3]
    exact e2
theorem r327 (d : Nat) (hT : rT G S) (f : Int32) : mg_m (mg_KM scr t) (d + 18) 327 [.ref 148, .int f] G (rAp G (p327 S f)) := by
  have hI := hT.I
  have h8 := hI.v8
  have h12 := hI.f12
  have hW := hI.W
  have hT1 := hT.s10 (.int 0)
  unfold p327 rAp
  cases hf : vi f (aF (sA S)) with
  | none =>
    rw [pF_x hf]
    refine mg_me [55] 160 my_327 ms_327 (Nat.le_of_ble_eq_true rfl) ?_
    repeat (first | refine ⟨_, mg_Fs rfl rfl, ?_⟩ | refine ⟨_, mg_Fd rfl rfl, ?_⟩ | refine ⟨Or.inl rfl, ?_⟩ | refine ⟨Or.inr ⟨_, rfl⟩, ?_⟩ | refine ⟨fun _ => ?_, fun h => absurd h (by decide)⟩ | refine ⟨fun h => absurd h (by decide), fun _ => ?_⟩)
    refine mg_cv (r181x d hI hf) (by omega) ?_
    repeat (first | refine ⟨_, mg_Fs rfl rfl, ?_⟩ | refine ⟨_, mg_Fd rfl rfl, ?_⟩ | refine ⟨Or.inl rfl, ?_⟩ | refine ⟨Or.inr ⟨_, rfl⟩, ?_⟩ | refine ⟨fun _ => ?_, fun h => absurd h (by decide)⟩ | refine ⟨fun h => absurd h (by decide), fun _ => ?_⟩)
    refine mg_cv (r176_1 d _ _) (by omega) ?_
    repeat (first | refine ⟨_, mg_Fs rfl rfl, ?_⟩ | refine ⟨_, mg_Fd rfl rfl, ?_⟩ | refine ⟨Or.inl rfl, ?_⟩ | refine ⟨Or.inr ⟨_, rfl⟩, ?_⟩ | refine ⟨fun _ => ?_, fun h => absurd h (by decide)⟩ | refine ⟨fun h => absurd h (by decide), fun _ => ?_⟩)
    exact rA_x hT rfl
  | some i =>
    obtain ⟨rfl, hi⟩ := vi_s hf
    rw [pF_y hf]
    refine mg_me [55] 160 my_327 ms_327 (Nat.le_of_ble_eq_true rfl) ?_
    repeat (first | refine ⟨_, mg_Fs rfl rfl, ?_⟩ | refine ⟨_, mg_Fd rfl rfl, ?_⟩ | refine ⟨Or.inl rfl, ?_⟩ | refine ⟨Or.inr ⟨_, rfl⟩, ?_⟩ | refine ⟨fun _ => ?_, fun h => absurd h (by decide)⟩ | refine ⟨fun h => absurd h (by decide), fun _ => ?_⟩)
    refine mg_cv (r181y d hI hf) (by omega) ?_
    repeat (first | refine ⟨_, mg_Fs rfl rfl, ?_⟩ | refine ⟨_, mg_Fd rfl rfl, ?_⟩ | refine ⟨Or.inl rfl, ?_⟩ | refine ⟨Or.inr ⟨_, rfl⟩, ?_⟩ | refine ⟨fun _ => ?_, fun h => absurd h (by decide)⟩ | refine ⟨fun h => absurd h (by decide), fun _ => ?_⟩)
    refine mg_cv (r176_0 d) (by omega) ?_
    repeat (first | refine ⟨_, mg_Fs rfl rfl, ?_⟩ | refine ⟨_, mg_Fd rfl rfl, ?_⟩ | refine ⟨Or.inl rfl, ?_⟩ | refine ⟨Or.inr ⟨_, rfl⟩, ?_⟩ | refine ⟨fun _ => ?_, fun h => absurd h (by decide)⟩ | refine ⟨fun h => absurd h (by decide), fun _ => ?_⟩)
    refine mg_m_mono (r201C d hT1.I) (by omega) ?_
    rintro o q G1 ⟨rfl, rfl, ⟨hX, hgr, hg, hr, -⟩, hcl, hnr⟩
    have h9 := hg.2.1
    have h0 := hg.1
    repeat (first | refine ⟨_, mg_Fs rfl rfl, ?_⟩ | refine ⟨_, mg_Fd rfl rfl, ?_⟩ | refine ⟨Or.inl rfl, ?_⟩ | refine ⟨Or.inr ⟨_, rfl⟩, ?_⟩ | refine ⟨fun _ => ?_, fun h => absurd h (by decide)⟩ | refine ⟨fun h => absurd h (by decide), fun _ => ?_⟩)
    repeat (first | refine ⟨_, mg_Fs rfl rfl, ?_⟩ | refine ⟨_, mg_Fd rfl rfl, ?_⟩ | refine ⟨Or.inl rfl, ?_⟩ | refine ⟨Or.inr ⟨_, rfl⟩, ?_⟩ | refine ⟨fun _ => ?_, fun h => absurd h (by decide)⟩ | refine ⟨fun h => absurd h (by decide), fun _ => ?_⟩)
    refine mg_m_mono (r203 hgr hg 162 (Or.inl rfl) d i _ (by omega) (hr i hi).1 (hr i hi).2) (by omega) ?_
    rintro o q G2 ⟨rfl, rfl, f', rfl, hf'⟩
    have hT2 : rT (gM G1 162 f') S := hT1.X (hX.u f' (by decide))
    have hgr2 := hgr.u f' (show 158 < 162 by decide)
    have hr2 : (gM G1 162 f').1 159 i = Int32.ofNat (aR (sA S) i) := (congrFun (mg_u_ne G1.1 f' (show (159 : Nat) ≠ 162 by decide)) i).trans (hr i hi).1
    have hc0 : rWc (gM G1 162 f') (mg_sF (gM G1 162 f') 148 9 (.int (Int32.ofInt 0))) := ⟨fun _ _ => rfl, rfl, rfl, rfl, fun b k hb => mg_sF_ne _ _ hb⟩
    have hw0 : rWr (mg_sF (gM G1 162 f') 148 9 (.int (Int32.ofInt 0))) [] := ⟨mg_sF_at _ _ _ _, by decide, fun i c hi => by simp at hi⟩
    have k0 := r325 (scr := scr) (t := t) d hw0 (by decide) (show aR (sA S) i < 1000 by have := (hr i hi).2; omega)
    rw [← hr2] at k0
    refine ⟨rfl, _, rfl, rfl, ?_⟩
    repeat (first | refine ⟨_, mg_Fs rfl rfl, ?_⟩ | refine ⟨_, mg_Fd rfl rfl, ?_⟩ | refine ⟨Or.inl rfl, ?_⟩ | refine ⟨Or.inr ⟨_, rfl⟩, ?_⟩ | refine ⟨fun _ => ?_, fun h => absurd h (by decide)⟩ | refine ⟨fun h => absurd h (by decide), fun _ => ?_⟩)
    refine ⟨_, _, i, mg_Ai rfl (by decide), mg_ixN (by omega), by omega, ?_⟩
    repeat (first | refine ⟨_, mg_Fs rfl rfl, ?_⟩ | refine ⟨_, mg_Fd rfl rfl, ?_⟩ | refine ⟨Or.inl rfl, ?_⟩ | refine ⟨Or.inr ⟨_, rfl⟩, ?_⟩ | refine ⟨fun _ => ?_, fun h => absurd h (by decide)⟩ | refine ⟨fun h => absurd h (by decide), fun _ => ?_⟩)
    refine rWQ.s k0 hc0 (by omega) fun G3 h3 hc3 => ?_
    repeat (first | refine ⟨_, mg_Fs rfl rfl, ?_⟩ | refine ⟨_, mg_Fd rfl rfl, ?_⟩ | refine ⟨Or.inl rfl, ?_⟩ | refine ⟨Or.inr ⟨_, rfl⟩, ?_⟩ | refine ⟨fun _ => ?_, fun h => absurd h (by decide)⟩ | refine ⟨fun h => absurd h (by decide), fun _ => ?_⟩)
    have h1600 := w_fs_1600 hW hcl hg hi (hnr i hi)
    refine mg_loop (gN (aG (sA S)) - 2) (fun k L G' => L = [some (.ref 148), some (.int (Int32.ofNat i)), some (.int (Int32.ofNat (k + 2)))] ∧ rWr G' (w_fs (sA S) i k) ∧ rWc (gM G1 162 f') G') ?_ ?_ _ _ ⟨rfl, h3, hc3⟩
    · rintro k L G' hk ⟨rfl, h4, hc4⟩ ih
      have hgr4 := hc4.gr hgr2
      have hI4 := hc4.I hT2.I
      obtain ⟨q1, q2, q3, -, -⟩ := hg.2.2.2.2 (k + 2) (by omega) (by omega)
      obtain ⟨e1, e2, e3⟩ := hgr4.2.2 (k + 2) (by omega) (by omega)
      have hk16 := h1600 (k + 1) (by omega)
      have hA1 : mg_A (mg_KM scr t) G' 162 3 1000 (.inl f') := by
        have := mg_Az (K := mg_KM scr t) (G := G') (a := 162) (n := 1000) rfl (by decide)
        rwa [show G'.1 162 = f' from (hc4.1 162 (by decide)).trans (gM_eq _ _ _)] at this
      rw [← mg_inc (k + 2)] at ih
      refine mg_go [55] 160 55 ms_327 ?_
      refine ⟨_, mg_Fe hgr4.1 rfl rfl, fun h => absurd h (mg_nle (by omega) (by omega)), fun _ => ?_⟩
      repeat (first | refine ⟨_, mg_Fs rfl rfl, ?_⟩ | refine ⟨_, mg_Fd rfl rfl, ?_⟩ | refine ⟨Or.inl rfl, ?_⟩ | refine ⟨Or.inr ⟨_, rfl⟩, ?_⟩ | refine ⟨fun _ => ?_, fun h => absurd h (by decide)⟩ | refine ⟨fun h => absurd h (by decide), fun _ => ?_⟩)
      refine ⟨3, 1000, f', k + 2, hA1, Or.inr rfl, mg_ixN (by omega), by omega, ?_⟩
      rw [hf' (k + 2) (by omega)]
      cases hb : g_rc (aG (sA S)) (aV (sA S)) (aR (sA S) i) (k + 2) with
      | false =>
        refine ⟨fun h => absurd rfl h, fun _ => ih _ _ ⟨rfl, ?_, hc4⟩⟩
        show rWr G' (w_fs (sA S) i k ++ (if g_rc (aG (sA S)) (aV (sA S)) (aR (sA S) i) (k + 2) then w_nd (sA S) (k + 2) else []))
        rw [hb, if_neg (by decide), List.append_nil]
        exact h4
      | true =>
        have es : w_fs (sA S) i (k + 1) = w_fs (sA S) i k ++ [59] ++ w_num (k + 2) ++ [58] ++ aVN (sA S) (aD (sA S) (gL (aG (sA S)) (k + 2))) ++ [32] ++ w_num (gO (aG (sA S)) (k + 2)) ++ [44] ++ w_num (gH (aG (sA S)) (k + 2)) := by
          show w_fs (sA S) i k ++ (if g_rc (aG (sA S)) (aV (sA S)) (aR (sA S) i) (k + 2) then w_nd (sA S) (k + 2) else []) = _
          rw [hb, if_pos rfl]
          unfold w_nd
          simp only [List.append_assoc]
        have hlen : (w_fs (sA S) i k).length + 20 ≤ 1600 := by
          have := h1600 k (by omega)
          omega
        have n1 := w_num_le (k + 2)
        have n2 := w_num_le (gO (aG (sA S)) (k + 2))
        have n3 := (hW.2.2.2.2.1 _ (hW.2.1.1 _ q1)).1.2
        refine ⟨fun _ => ?_, fun h => absurd h (by decide)⟩
        repeat (first | refine ⟨_, mg_Fs rfl rfl, ?_⟩ | refine ⟨_, mg_Fd rfl rfl, ?_⟩ | refine ⟨Or.inl rfl, ?_⟩ | refine ⟨Or.inr ⟨_, rfl⟩, ?_⟩ | refine ⟨fun _ => ?_, fun h => absurd h (by decide)⟩ | refine ⟨fun h => absurd h (by decide), fun _ => ?_⟩)
        refine rWQ.s (r324 d h4 (by omega) (show 59 < 128 by decide)) hc4 (by omega) fun G5 h5 hc5 => ?_
        repeat (first | refine ⟨_, mg_Fs rfl rfl, ?_⟩ | refine ⟨_, mg_Fd rfl rfl, ?_⟩ | refine ⟨Or.inl rfl, ?_⟩ | refine ⟨Or.inr ⟨_, rfl⟩, ?_⟩ | refine ⟨fun _ => ?_, fun h => absurd h (by decide)⟩ | refine ⟨fun h => absurd h (by decide), fun _ => ?_⟩)
        refine rWQ.s (r325 d h5 (by simp only [List.length_append, List.length_cons, List.length_nil]; omega) (show k + 2 < 1000 by omega)) hc5 (by omega) fun G6 h6 hc6 => ?_
        repeat (first | refine ⟨_, mg_Fs rfl rfl, ?_⟩ | refine ⟨_, mg_Fd rfl rfl, ?_⟩ | refine ⟨Or.inl rfl, ?_⟩ | refine ⟨Or.inr ⟨_, rfl⟩, ?_⟩ | refine ⟨fun _ => ?_, fun h => absurd h (by decide)⟩ | refine ⟨fun h => absurd h (by decide), fun _ => ?_⟩)
        refine rWQ.s (r324 d h6 (by simp only [List.length_append, List.length_cons, List.length_nil]; omega) (show 58 < 128 by decide)) hc6 (by omega) fun G7 h7 hc7 => ?_
        have e17 : G7.1 156 (k + 2) = Int32.ofNat (aD (sA S) (gL (aG (sA S)) (k + 2))) := ((hc7.gr hgr2).2.2 (k + 2) (by omega) (by omega)).1
        repeat (first | refine ⟨_, mg_Fs rfl rfl, ?_⟩ | refine ⟨_, mg_Fd rfl rfl, ?_⟩ | refine ⟨Or.inl rfl, ?_⟩ | refine ⟨Or.inr ⟨_, rfl⟩, ?_⟩ | refine ⟨fun _ => ?_, fun h => absurd h (by decide)⟩ | refine ⟨fun h => absurd h (by decide), fun _ => ?_⟩)
        refine ⟨_, _, k + 2, mg_Ai rfl (by decide), mg_ixN (by omega), by omega, ?_⟩
        rw [e17]
        repeat (first | refine ⟨_, mg_Fs rfl rfl, ?_⟩ | refine ⟨_, mg_Fd rfl rfl, ?_⟩ | refine ⟨Or.inl rfl, ?_⟩ | refine ⟨Or.inr ⟨_, rfl⟩, ?_⟩ | refine ⟨fun _ => ?_, fun h => absurd h (by decide)⟩ | refine ⟨fun h => absurd h (by decide), fun _ => ?_⟩)
        refine rWQ.s (r326 d (hc7.I hT2.I) h7 (hW.2.1.1 _ q1) (by simp only [List.length_append, List.length_cons, List.length_nil]; omega)) hc7 (by omega) fun G8 h8' hc8 => ?_
        repeat (first | refine ⟨_, mg_Fs rfl rfl, ?_⟩ | refine ⟨_, mg_Fd rfl rfl, ?_⟩ | refine ⟨Or.inl rfl, ?_⟩ | refine ⟨Or.inr ⟨_, rfl⟩, ?_⟩ | refine ⟨fun _ => ?_, fun h => absurd h (by decide)⟩ | refine ⟨fun h => absurd h (by decide), fun _ => ?_⟩)
        refine rWQ.s (r324 d h8' (by simp only [List.length_append, List.length_cons, List.length_nil]; omega) (show 32 < 128 by decide)) hc8 (by omega) fun G9 h9' hc9 => ?_
        have e29 : G9.1 157 (k + 2) = Int32.ofNat (gO (aG (sA S)) (k + 2)) := ((hc9.gr hgr2).2.2 (k + 2) (by omega) (by omega)).2.1
        repeat (first | refine ⟨_, mg_Fs rfl rfl, ?_⟩ | refine ⟨_, mg_Fd rfl rfl, ?_⟩ | refine ⟨Or.inl rfl, ?_⟩ | refine ⟨Or.inr ⟨_, rfl⟩, ?_⟩ | refine ⟨fun _ => ?_, fun h => absurd h (by decide)⟩ | refine ⟨fun h => absurd h (by decide), fun _ => ?_⟩)
        refine ⟨_, _, k + 2, mg_Ai rfl (by decide), mg_ixN (by omega), by omega, ?_⟩
        rw [e29]
        repeat (first | refine ⟨_, mg_Fs rfl rfl, ?_⟩ | refine ⟨_, mg_Fd rfl rfl, ?_⟩ | refine ⟨Or.inl rfl, ?_⟩ | refine ⟨Or.inr ⟨_, rfl⟩, ?_⟩ | refine ⟨fun _ => ?_, fun h => absurd h (by decide)⟩ | refine ⟨fun h => absurd h (by decide), fun _ => ?_⟩)
        refine rWQ.s (r325 d h9' (by simp only [List.length_append, List.length_cons, List.length_nil]; omega) (show gO (aG (sA S)) (k + 2) < 1000 by omega)) hc9 (by omega) fun G10 h10 hc10 => ?_
        repeat (first | refine ⟨_, mg_Fs rfl rfl, ?_⟩ | refine ⟨_, mg_Fd rfl rfl, ?_⟩ | refine ⟨Or.inl rfl, ?_⟩ | refine ⟨Or.inr ⟨_, rfl⟩, ?_⟩ | refine ⟨fun _ => ?_, fun h => absurd h (by decide)⟩ | refine ⟨fun h => absurd h (by decide), fun _ => ?_⟩)
        refine rWQ.s (r324 d h10 (by simp only [List.length_append, List.length_cons, List.length_nil]; omega) (show 44 < 128 by decide)) hc10 (by omega) fun G11 h11 hc11 => ?_
        have e3b : G11.1 158 (k + 2) = Int32.ofNat (gH (aG (sA S)) (k + 2)) := ((hc11.gr hgr2).2.2 (k + 2) (by omega) (by omega)).2.2
        repeat (first | refine ⟨_, mg_Fs rfl rfl, ?_⟩ | refine ⟨_, mg_Fd rfl rfl, ?_⟩ | refine ⟨Or.inl rfl, ?_⟩ | refine ⟨Or.inr ⟨_, rfl⟩, ?_⟩ | refine ⟨fun _ => ?_, fun h => absurd h (by decide)⟩ | refine ⟨fun h => absurd h (by decide), fun _ => ?_⟩)
        refine ⟨_, _, k + 2, mg_Ai rfl (by decide), mg_ixN (by omega), by omega, ?_⟩
        rw [e3b]
        repeat (first | refine ⟨_, mg_Fs rfl rfl, ?_⟩ | refine ⟨_, mg_Fd rfl rfl, ?_⟩ | refine ⟨Or.inl rfl, ?_⟩ | refine ⟨Or.inr ⟨_, rfl⟩, ?_⟩ | refine ⟨fun _ => ?_, fun h => absurd h (by decide)⟩ | refine ⟨fun h => absurd h (by decide), fun _ => ?_⟩)
        refine rWQ.s (r325 d h11 (by simp only [List.length_append, List.length_cons, List.length_nil]; omega) (show gH (aG (sA S)) (k + 2) < 1000 by omega)) hc11 (by omega) fun G12 h12' hc12 => ?_
        exact ih _ _ ⟨rfl, by rw [es]; exact h12', hc12⟩
    · rintro L G' ⟨rfl, h4, hc4⟩
      have hgr4 := hc4.gr hgr2
      rw [show gN (aG (sA S)) - 2 + 2 = gN (aG (sA S)) by omega]
      refine mg_go [] 60 55 ms_327 ?_
      refine ⟨_, mg_Fe hgr4.1 rfl rfl, fun _ => ⟨_, mg_Fe h4.1 rfl rfl, Or.inl rfl, rfl, rfl, ?_, hT2.wr hc4 h4, ?_⟩, fun h => absurd h (Int32.not_lt.mpr (Int32.le_refl _))⟩
      · exact (hc4.2.2.2.2 148 10 (by decide)).trans ((hX.2.2.2 148 10 (by decide)).trans (mg_sF_at _ _ _ _))
      · exact ((rF.s G _ _).tr (hX.u f' (by decide)).F).tr hc4.F
end RM
