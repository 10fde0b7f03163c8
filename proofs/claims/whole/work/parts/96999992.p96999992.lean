/-! REFERENCE: statements on orders, drop; one statement -/
section RM
variable {scr : Nat × (Nat → Int32)} {t : List mg_S} {G : mg_G} {A : a_A} {l : List Nat} {p : Nat}
theorem r248 (d : Nat) (h : tI G A l p) (hp : p ≤ l.length) : mg_m (mg_KM scr t) (d + 12) 248 [.ref 148] G (rD G l (tC A l p 3)) := by
  have hM := h.M
  have h12 := h.1.f12
  have hE := k_E_le hp
  show mg_m _ _ _ _ _ (rD G l (tFun A l (k_E l p) fun f q => .inr (remF A f, q)))
  have st : ∀ Q : mg_Q, (∀ G1, tM G G1 A l (k_E l p) → mg_wp (mg_KM scr t) mc_248 (d + 11) 4 [some (.ref 148), none] [] G1 Q) → mg_m (mg_KM scr t) (d + 12) 248 [.ref 148] G Q := fun Q g => by
    refine mg_me [4] 60 my_248 ms_248 (Nat.le_of_ble_eq_true rfl) ?_
    repeat (first | refine ⟨_, mg_Fs rfl rfl, ?_⟩ | refine ⟨Or.inl rfl, ?_⟩ | refine ⟨Or.inr ⟨_, rfl⟩, ?_⟩ | refine ⟨fun _ => ?_, fun h => absurd h (by decide)⟩ | refine ⟨fun h => absurd h (by decide), fun _ => ?_⟩)
    refine mg_m_mono (r210M d hM hp) (by omega) ?_
    rintro o q G1 ⟨rfl, rfl, w⟩
    exact g G1 w
  refine st _ (fun G1 hM1 => ?_)
  unfold tFun
  have kn := r217M (scr := scr) (t := t) d hM1 hE
  cases b1 : k_nm l (k_E l p) with
  | false =>
    rw [b1] at kn
    rw [if_neg (by decide)]
    refine mg_go [] 60 4 ms_248 ?_
    repeat (first | refine ⟨_, mg_Fs rfl rfl, ?_⟩ | refine ⟨Or.inl rfl, ?_⟩ | refine ⟨Or.inr ⟨_, rfl⟩, ?_⟩ | refine ⟨fun _ => ?_, fun h => absurd h (by decide)⟩ | refine ⟨fun h => absurd h (by decide), fun _ => ?_⟩)
    refine mg_cv (kn) (by omega) ?_
    refine ⟨fun q => absurd rfl q, fun _ => ?_⟩
    repeat (first | refine ⟨_, mg_Fs rfl rfl, ?_⟩ | refine ⟨Or.inl rfl, ?_⟩ | refine ⟨Or.inr ⟨_, rfl⟩, ?_⟩ | refine ⟨fun _ => ?_, fun h => absurd h (by decide)⟩ | refine ⟨fun h => absurd h (by decide), fun _ => ?_⟩)
    refine mg_m_mono (r212M d hM1 1) (by omega) ?_
    rintro o q G2 ⟨rfl, rfl, w⟩
    exact ⟨Or.inr rfl, w⟩
  | true =>
  rw [b1] at kn
  rw [if_pos rfl]
  have kv := r220M (scr := scr) (t := t) d hM1 hE (k_nm_1 b1)
  cases ev : k_f A l (k_E l p) with
  | none =>
    rw [ev] at kv
    refine mg_go [] 60 4 ms_248 ?_
    repeat (first | refine ⟨_, mg_Fs rfl rfl, ?_⟩ | refine ⟨Or.inl rfl, ?_⟩ | refine ⟨Or.inr ⟨_, rfl⟩, ?_⟩ | refine ⟨fun _ => ?_, fun h => absurd h (by decide)⟩ | refine ⟨fun h => absurd h (by decide), fun _ => ?_⟩)
    refine mg_cv (kn) (by omega) ?_
    refine ⟨fun _ => ?_, fun q => absurd q (by decide)⟩
    repeat (first | refine ⟨_, mg_Fs rfl rfl, ?_⟩ | refine ⟨Or.inl rfl, ?_⟩ | refine ⟨Or.inr ⟨_, rfl⟩, ?_⟩ | refine ⟨fun _ => ?_, fun h => absurd h (by decide)⟩ | refine ⟨fun h => absurd h (by decide), fun _ => ?_⟩)
    refine mg_cv (kv) (by omega) ?_
    refine ⟨fun q => absurd rfl q, fun _ => ?_⟩
    repeat (first | refine ⟨_, mg_Fs rfl rfl, ?_⟩ | refine ⟨Or.inl rfl, ?_⟩ | refine ⟨Or.inr ⟨_, rfl⟩, ?_⟩ | refine ⟨fun _ => ?_, fun h => absurd h (by decide)⟩ | refine ⟨fun h => absurd h (by decide), fun _ => ?_⟩)
    refine mg_m_mono (r212M d hM1 3) (by omega) ?_
    rintro o q G2 ⟨rfl, rfl, w⟩
    exact ⟨Or.inr rfl, w⟩
  | some v =>
    have hv2 : v < aF A := k_at_lt ev
    rw [ev] at kv
    refine mg_go [] 60 4 ms_248 ?_
    repeat (first | refine ⟨_, mg_Fs rfl rfl, ?_⟩ | refine ⟨Or.inl rfl, ?_⟩ | refine ⟨Or.inr ⟨_, rfl⟩, ?_⟩ | refine ⟨fun _ => ?_, fun h => absurd h (by decide)⟩ | refine ⟨fun h => absurd h (by decide), fun _ => ?_⟩)
    refine mg_cv (kn) (by omega) ?_
    refine ⟨fun _ => ?_, fun q => absurd q (by decide)⟩
    repeat (first | refine ⟨_, mg_Fs rfl rfl, ?_⟩ | refine ⟨Or.inl rfl, ?_⟩ | refine ⟨Or.inr ⟨_, rfl⟩, ?_⟩ | refine ⟨fun _ => ?_, fun h => absurd h (by decide)⟩ | refine ⟨fun h => absurd h (by decide), fun _ => ?_⟩)
    refine mg_cv (kv) (by omega) ?_
    refine ⟨fun _ => ?_, fun q => absurd q (mg_n1 (by omega))⟩
    repeat (first | refine ⟨_, mg_Fs rfl rfl, ?_⟩ | refine ⟨Or.inl rfl, ?_⟩ | refine ⟨Or.inr ⟨_, rfl⟩, ?_⟩ | refine ⟨fun _ => ?_, fun h => absurd h (by decide)⟩ | refine ⟨fun h => absurd h (by decide), fun _ => ?_⟩)
    refine mg_m_mono (r313 d hM1.2.1.1 hv2) (by omega) ?_
    rintro o q G2 ⟨rfl, rfl, hI2, hz2⟩
    repeat (first | refine ⟨_, mg_Fs rfl rfl, ?_⟩ | refine ⟨Or.inl rfl, ?_⟩ | refine ⟨Or.inr ⟨_, rfl⟩, ?_⟩ | refine ⟨fun _ => ?_, fun h => absurd h (by decide)⟩ | refine ⟨fun h => absurd h (by decide), fun _ => ?_⟩)
    refine mg_m_mono (r210M d (hM1.z hI2 hz2) hE) (by omega) ?_
    rintro o q G3 ⟨rfl, rfl, w⟩
    exact ⟨Or.inr rfl, w.Q⟩
theorem r249 (d : Nat) (h : tI G A l p) (hp : p ≤ l.length) : mg_m (mg_KM scr t) (d + 12) 249 [.ref 148] G (rD G l (tC A l p 4)) := by
  have hM := h.M
  have hW := h.1.W
  have h8 := h.1.v8
  have h1 : 1 ≤ aV A := hW.1
  have hE := k_E_le hp
  show mg_m _ _ _ _ _ (rD G l (tNum l (k_E l p) (aV A - 1) fun n q => .inr (setD A (a_mv (aD A) n (n + 1)), q)))
  have eV : Int32.ofNat (aV A) - Int32.ofInt 1 = Int32.ofNat (aV A - 1) := mg_subN (b := 1) h1
  have st : ∀ Q : mg_Q, (∀ G1, tM G G1 A l (k_E l p) → mg_wp (mg_KM scr t) mc_249 (d + 11) 4 [some (.ref 148)] [] G1 Q) → mg_m (mg_KM scr t) (d + 12) 249 [.ref 148] G Q := fun Q g => by
    refine mg_me [4] 60 my_249 ms_249 (Nat.le_of_ble_eq_true rfl) ?_
    repeat (first | refine ⟨_, mg_Fs rfl rfl, ?_⟩ | refine ⟨Or.inl rfl, ?_⟩ | refine ⟨Or.inr ⟨_, rfl⟩, ?_⟩ | refine ⟨fun _ => ?_, fun h => absurd h (by decide)⟩ | refine ⟨fun h => absurd h (by decide), fun _ => ?_⟩)
    refine mg_m_mono (r210M d hM hp) (by omega) ?_
    rintro o q G1 ⟨rfl, rfl, w⟩
    exact g G1 w
  refine st _ (fun G1 hM1 => ?_)
  have hk1 := hM1.2.1.2.2
  unfold tNum
  by_cases b2 : k_K l (k_E l p) = 2
  · rw [if_pos b2]
    have h25 := hk1.2.2.2 b2
    by_cases b3 : k_N l (k_E l p) < aV A - 1
    · rw [if_pos b3]
      have k1 := r246y (scr := scr) (t := t) d hk1 hE b2 (m := aV A - 1) (by omega) b3
      rw [← eV] at k1
      refine mg_go [] 60 4 ms_249 ?_
      repeat (first | refine ⟨_, mg_Fs rfl rfl, ?_⟩ | refine ⟨Or.inl rfl, ?_⟩ | refine ⟨Or.inr ⟨_, rfl⟩, ?_⟩ | refine ⟨fun _ => ?_, fun h => absurd h (by decide)⟩ | refine ⟨fun h => absurd h (by decide), fun _ => ?_⟩)
      refine mg_cv (r178n d hM1.2.1.1.v) (by omega) ?_
      repeat (first | refine ⟨_, mg_Fs rfl rfl, ?_⟩ | refine ⟨Or.inl rfl, ?_⟩ | refine ⟨Or.inr ⟨_, rfl⟩, ?_⟩ | refine ⟨fun _ => ?_, fun h => absurd h (by decide)⟩ | refine ⟨fun h => absurd h (by decide), fun _ => ?_⟩)
      refine mg_cv (k1) (by omega) ?_
      refine ⟨fun _ => ?_, fun q => absurd q (by decide)⟩
      refine ⟨_, mg_Fe h25 rfl rfl, ?_⟩
      repeat (first | refine ⟨_, mg_Fs rfl rfl, ?_⟩ | refine ⟨Or.inl rfl, ?_⟩ | refine ⟨Or.inr ⟨_, rfl⟩, ?_⟩ | refine ⟨fun _ => ?_, fun h => absurd h (by decide)⟩ | refine ⟨fun h => absurd h (by decide), fun _ => ?_⟩)
      refine mg_m_mono (r300 d hM1.2.1.1 (l := k_N l (k_E l p)) (by omega)) (by omega) ?_
      rintro o q G2 ⟨rfl, rfl, hI2, hz2, -⟩
      repeat (first | refine ⟨_, mg_Fs rfl rfl, ?_⟩ | refine ⟨Or.inl rfl, ?_⟩ | refine ⟨Or.inr ⟨_, rfl⟩, ?_⟩ | refine ⟨fun _ => ?_, fun h => absurd h (by decide)⟩ | refine ⟨fun h => absurd h (by decide), fun _ => ?_⟩)
      refine mg_m_mono (r210M d (hM1.z hI2 hz2) hE) (by omega) ?_
      rintro o q G3 ⟨rfl, rfl, w⟩
      exact ⟨Or.inr rfl, w.Q⟩
    · rw [if_neg b3]
      have k1 := r246x (scr := scr) (t := t) d hk1 hE b2 (m := aV A - 1) (by omega) (by omega)
      rw [← eV] at k1
      refine mg_go [] 60 4 ms_249 ?_
      repeat (first | refine ⟨_, mg_Fs rfl rfl, ?_⟩ | refine ⟨Or.inl rfl, ?_⟩ | refine ⟨Or.inr ⟨_, rfl⟩, ?_⟩ | refine ⟨fun _ => ?_, fun h => absurd h (by decide)⟩ | refine ⟨fun h => absurd h (by decide), fun _ => ?_⟩)
      refine mg_cv (r178n d hM1.2.1.1.v) (by omega) ?_
      repeat (first | refine ⟨_, mg_Fs rfl rfl, ?_⟩ | refine ⟨Or.inl rfl, ?_⟩ | refine ⟨Or.inr ⟨_, rfl⟩, ?_⟩ | refine ⟨fun _ => ?_, fun h => absurd h (by decide)⟩ | refine ⟨fun h => absurd h (by decide), fun _ => ?_⟩)
      refine mg_cv (k1) (by omega) ?_
      refine ⟨fun q => absurd rfl q, fun _ => ?_⟩
      exact ⟨Or.inr rfl, hM1.x 2⟩
  · rw [if_neg b2]
    refine mg_go [] 60 4 ms_249 ?_
    repeat (first | refine ⟨_, mg_Fs rfl rfl, ?_⟩ | refine ⟨Or.inl rfl, ?_⟩ | refine ⟨Or.inr ⟨_, rfl⟩, ?_⟩ | refine ⟨fun _ => ?_, fun h => absurd h (by decide)⟩ | refine ⟨fun h => absurd h (by decide), fun _ => ?_⟩)
    refine mg_cv (r178n d hM1.2.1.1.v) (by omega) ?_
    repeat (first | refine ⟨_, mg_Fs rfl rfl, ?_⟩ | refine ⟨Or.inl rfl, ?_⟩ | refine ⟨Or.inr ⟨_, rfl⟩, ?_⟩ | refine ⟨fun _ => ?_, fun h => absurd h (by decide)⟩ | refine ⟨fun h => absurd h (by decide), fun _ => ?_⟩)
    refine mg_cv (r246n d hk1 b2 _) (by omega) ?_
    refine ⟨fun q => absurd rfl q, fun _ => ?_⟩
    exact ⟨Or.inr rfl, hM1.x 1⟩
theorem r247 (d : Nat) (h : tI G A l p) (hp : p ≤ l.length) {k : Nat} (hk : k_kd l p = some k) (h56 : k = 5 ∨ k = 6) : mg_m (mg_KM scr t) (d + 30) 247 [.ref 148] G (rD G l (tC A l p k)) := by
  have hM := h.M
  have hW := h.1.W
  have h8 := h.1.v8
  obtain ⟨-, hK, hlt, hw⟩ := k_kd_w hk
  have hE := k_E_le hp
  have hEE := k_E_le hE
  have k5 := r213c (scr := scr) (t := t) d h.2.1 h.2.2 hp (a := 46) (by unfold k_ok; omega) (by decide) (b := 34) (by decide)
  rw [show k_wd l p (k_str 34) = decide (k = 5) from (hw 5 (by decide)).trans (by rcases h56 with rfl | rfl <;> rfl)] at k5
  have hto : tC A l p k = tVar A l (k_E l p) fun v q => if k = 5 then (tNum l q (aV A) fun n q => .inr (a_shf A v n, q)) else .inr (a_sft A v, q) := by
    rcases h56 with rfl | rfl <;> rfl
  rw [hto]
  have st : ∀ Q : mg_Q, (∀ G1, tM G G1 A l (k_E l p) → mg_wp (mg_KM scr t) mc_247 (d + 29) 12 [some (.ref 148), some (.int (b2 (decide (k = 5)))), none] [] G1 Q) → mg_m (mg_KM scr t) (d + 30) 247 [.ref 148] G Q := fun Q g => by
    refine mg_me [12] 60 my_247 ms_247 (Nat.le_of_ble_eq_true rfl) ?_
    repeat (first | refine ⟨_, mg_Fs rfl rfl, ?_⟩ | refine ⟨Or.inl rfl, ?_⟩ | refine ⟨Or.inr ⟨_, rfl⟩, ?_⟩ | refine ⟨fun _ => ?_, fun h => absurd h (by decide)⟩ | refine ⟨fun h => absurd h (by decide), fun _ => ?_⟩)
    refine mg_cv (k5) (by omega) ?_
    repeat (first | refine ⟨_, mg_Fs rfl rfl, ?_⟩ | refine ⟨Or.inl rfl, ?_⟩ | refine ⟨Or.inr ⟨_, rfl⟩, ?_⟩ | refine ⟨fun _ => ?_, fun h => absurd h (by decide)⟩ | refine ⟨fun h => absurd h (by decide), fun _ => ?_⟩)
    refine mg_m_mono (r210M d hM hp) (by omega) ?_
    rintro o q G1 ⟨rfl, rfl, w⟩
    exact g G1 w
  refine st _ (fun G1 hM1 => ?_)
  unfold tVar
  have kn := r217M (scr := scr) (t := t) d hM1 hE
  cases b1 : k_nm l (k_E l p) with
  | false =>
    rw [b1] at kn
    rw [if_neg (show ¬ (false = true) from by decide)]
    refine mg_go [] 60 12 ms_247 ?_
    repeat (first | refine ⟨_, mg_Fs rfl rfl, ?_⟩ | refine ⟨Or.inl rfl, ?_⟩ | refine ⟨Or.inr ⟨_, rfl⟩, ?_⟩ | refine ⟨fun _ => ?_, fun h => absurd h (by decide)⟩ | refine ⟨fun h => absurd h (by decide), fun _ => ?_⟩)
    refine mg_cv (kn) (by omega) ?_
    refine ⟨fun q => absurd rfl q, fun _ => ?_⟩
    repeat (first | refine ⟨_, mg_Fs rfl rfl, ?_⟩ | refine ⟨Or.inl rfl, ?_⟩ | refine ⟨Or.inr ⟨_, rfl⟩, ?_⟩ | refine ⟨fun _ => ?_, fun h => absurd h (by decide)⟩ | refine ⟨fun h => absurd h (by decide), fun _ => ?_⟩)
    refine mg_m_mono (r212M d hM1 1) (by omega) ?_
    rintro o q G2 ⟨rfl, rfl, w⟩
    exact ⟨Or.inr rfl, w⟩
  | true =>
  rw [b1] at kn
  rw [if_pos rfl]
  have kv := r219M (scr := scr) (t := t) d hM1 hE (k_nm_1 b1)
  cases ev : k_v A l (k_E l p) with
  | none =>
    rw [ev] at kv
    refine mg_go [] 60 12 ms_247 ?_
    repeat (first | refine ⟨_, mg_Fs rfl rfl, ?_⟩ | refine ⟨Or.inl rfl, ?_⟩ | refine ⟨Or.inr ⟨_, rfl⟩, ?_⟩ | refine ⟨fun _ => ?_, fun h => absurd h (by decide)⟩ | refine ⟨fun h => absurd h (by decide), fun _ => ?_⟩)
    refine mg_cv (kn) (by omega) ?_
    refine ⟨fun _ => ?_, fun q => absurd q (by decide)⟩
    repeat (first | refine ⟨_, mg_Fs rfl rfl, ?_⟩ | refine ⟨Or.inl rfl, ?_⟩ | refine ⟨Or.inr ⟨_, rfl⟩, ?_⟩ | refine ⟨fun _ => ?_, fun h => absurd h (by decide)⟩ | refine ⟨fun h => absurd h (by decide), fun _ => ?_⟩)
    refine mg_cv (kv) (by omega) ?_
    refine ⟨fun q => absurd rfl q, fun _ => ?_⟩
    repeat (first | refine ⟨_, mg_Fs rfl rfl, ?_⟩ | refine ⟨Or.inl rfl, ?_⟩ | refine ⟨Or.inr ⟨_, rfl⟩, ?_⟩ | refine ⟨fun _ => ?_, fun h => absurd h (by decide)⟩ | refine ⟨fun h => absurd h (by decide), fun _ => ?_⟩)
    refine mg_m_mono (r212M d hM1 3) (by omega) ?_
    rintro o q G2 ⟨rfl, rfl, w⟩
    exact ⟨Or.inr rfl, w⟩
  | some v =>
  have hv2 : v < aV A := k_at_lt ev
  rw [ev] at kv
  have st : ∀ Q : mg_Q, (∀ G2, tM G G2 A l (k_E l (k_E l p)) → mg_wp (mg_KM scr t) mc_247 (d + 29) 45 [some (.ref 148), some (.int (b2 (decide (k = 5)))), some (.int (Int32.ofNat v))] [] G2 Q) → mg_wp (mg_KM scr t) mc_247 (d + 29) 12 [some (.ref 148), some (.int (b2 (decide (k = 5)))), none] [] G1 Q := fun Q g => by
    refine mg_go [45] 60 12 ms_247 ?_
    repeat (first | refine ⟨_, mg_Fs rfl rfl, ?_⟩ | refine ⟨Or.inl rfl, ?_⟩ | refine ⟨Or.inr ⟨_, rfl⟩, ?_⟩ | refine ⟨fun _ => ?_, fun h => absurd h (by decide)⟩ | refine ⟨fun h => absurd h (by decide), fun _ => ?_⟩)
    refine mg_cv (kn) (by omega) ?_
    refine ⟨fun _ => ?_, fun q => absurd q (by decide)⟩
    repeat (first | refine ⟨_, mg_Fs rfl rfl, ?_⟩ | refine ⟨Or.inl rfl, ?_⟩ | refine ⟨Or.inr ⟨_, rfl⟩, ?_⟩ | refine ⟨fun _ => ?_, fun h => absurd h (by decide)⟩ | refine ⟨fun h => absurd h (by decide), fun _ => ?_⟩)
    refine mg_cv (kv) (by omega) ?_
    refine ⟨fun _ => ?_, fun q => absurd q (mg_n1 (by omega))⟩
    repeat (first | refine ⟨_, mg_Fs rfl rfl, ?_⟩ | refine ⟨Or.inl rfl, ?_⟩ | refine ⟨Or.inr ⟨_, rfl⟩, ?_⟩ | refine ⟨fun _ => ?_, fun h => absurd h (by decide)⟩ | refine ⟨fun h => absurd h (by decide), fun _ => ?_⟩)
    refine mg_m_mono (r210M d hM1 hE) (by omega) ?_
    rintro o q G2 ⟨rfl, rfl, w⟩
    exact g G2 w
  refine st _ (fun G2 hM2 => ?_)
  have hk2 := hM2.2.1.2.2
  show mg_wp _ _ _ _ _ _ _ (rD G l (if k = 5 then (tNum l (k_E l (k_E l p)) (aV A) fun n q => .inr (a_shf A v n, q)) else .inr (a_sft A v, k_E l (k_E l p))))
  rcases h56 with rfl | rfl
  · rw [if_pos rfl]
    unfold tNum
    by_cases b2 : k_K l (k_E l (k_E l p)) = 2
    · rw [if_pos b2]
      have h25 := hk2.2.2.2 b2
      by_cases b3 : k_N l (k_E l (k_E l p)) < aV A
      · rw [if_pos b3]
        refine mg_go [] 60 45 ms_247 ?_
        refine ⟨fun _ => ?_, fun q => absurd q (by decide)⟩
        repeat (first | refine ⟨_, mg_Fs rfl rfl, ?_⟩ | refine ⟨Or.inl rfl, ?_⟩ | refine ⟨Or.inr ⟨_, rfl⟩, ?_⟩ | refine ⟨fun _ => ?_, fun h => absurd h (by decide)⟩ | refine ⟨fun h => absurd h (by decide), fun _ => ?_⟩)
        refine mg_cv (r178n d hM2.2.1.1.v) (by omega) ?_
        repeat (first | refine ⟨_, mg_Fs rfl rfl, ?_⟩ | refine ⟨Or.inl rfl, ?_⟩ | refine ⟨Or.inr ⟨_, rfl⟩, ?_⟩ | refine ⟨fun _ => ?_, fun h => absurd h (by decide)⟩ | refine ⟨fun h => absurd h (by decide), fun _ => ?_⟩)
        refine mg_cv (r246y d hk2 hEE b2 (m := aV A) (by omega) b3) (by omega) ?_
        refine ⟨fun _ => ?_, fun q => absurd q (by decide)⟩
        refine ⟨_, mg_Fe h25 rfl rfl, ?_⟩
        repeat (first | refine ⟨_, mg_Fs rfl rfl, ?_⟩ | refine ⟨Or.inl rfl, ?_⟩ | refine ⟨Or.inr ⟨_, rfl⟩, ?_⟩ | refine ⟨fun _ => ?_, fun h => absurd h (by decide)⟩ | refine ⟨fun h => absurd h (by decide), fun _ => ?_⟩)
        refine mg_m_mono (r299 d hM2.2.1.1 hv2 b3) (by omega) ?_
        rintro o q G3 ⟨rfl, rfl, hI3, hz3, -⟩
        repeat (first | refine ⟨_, mg_Fs rfl rfl, ?_⟩ | refine ⟨Or.inl rfl, ?_⟩ | refine ⟨Or.inr ⟨_, rfl⟩, ?_⟩ | refine ⟨fun _ => ?_, fun h => absurd h (by decide)⟩ | refine ⟨fun h => absurd h (by decide), fun _ => ?_⟩)
        refine mg_m_mono (r210M d (hM2.z hI3 hz3) hEE) (by omega) ?_
        rintro o q G4 ⟨rfl, rfl, w⟩
        exact ⟨Or.inr rfl, w.Q⟩
      · rw [if_neg b3]
        refine mg_go [] 60 45 ms_247 ?_
        refine ⟨fun _ => ?_, fun q => absurd q (by decide)⟩
        repeat (first | refine ⟨_, mg_Fs rfl rfl, ?_⟩ | refine ⟨Or.inl rfl, ?_⟩ | refine ⟨Or.inr ⟨_, rfl⟩, ?_⟩ | refine ⟨fun _ => ?_, fun h => absurd h (by decide)⟩ | refine ⟨fun h => absurd h (by decide), fun _ => ?_⟩)
        refine mg_cv (r178n d hM2.2.1.1.v) (by omega) ?_
        repeat (first | refine ⟨_, mg_Fs rfl rfl, ?_⟩ | refine ⟨Or.inl rfl, ?_⟩ | refine ⟨Or.inr ⟨_, rfl⟩, ?_⟩ | refine ⟨fun _ => ?_, fun h => absurd h (by decide)⟩ | refine ⟨fun h => absurd h (by decide), fun _ => ?_⟩)
        refine mg_cv (r246x d hk2 hEE b2 (m := aV A) (by omega) (by omega)) (by omega) ?_
        refine ⟨fun q => absurd rfl q, fun _ => ?_⟩
        exact ⟨Or.inr rfl, hM2.x 2⟩
    · rw [if_neg b2]
      refine mg_go [] 60 45 ms_247 ?_
      refine ⟨fun _ => ?_, fun q => absurd q (by decide)⟩
      repeat (first | refine ⟨_, mg_Fs rfl rfl, ?_⟩ | refine ⟨Or.inl rfl, ?_⟩ | refine ⟨Or.inr ⟨_, rfl⟩, ?_⟩ | refine ⟨fun _ => ?_, fun h => absurd h (by decide)⟩ | refine ⟨fun h => absurd h (by decide), fun _ => ?_⟩)
      refine mg_cv (r178n d hM2.2.1.1.v) (by omega) ?_
      repeat (first | refine ⟨_, mg_Fs rfl rfl, ?_⟩ | refine ⟨Or.inl rfl, ?_⟩ | refine ⟨Or.inr ⟨_, rfl⟩, ?_⟩ | refine ⟨fun _ => ?_, fun h => absurd h (by decide)⟩ | refine ⟨fun h => absurd h (by decide), fun _ => ?_⟩)
      refine mg_cv (r246n d hk2 b2 _) (by omega) ?_
      refine ⟨fun q => absurd rfl q, fun _ => ?_⟩
      exact ⟨Or.inr rfl, hM2.x 1⟩
  · rw [if_neg (by decide)]
    refine mg_go [] 60 45 ms_247 ?_
    refine ⟨fun q => absurd rfl q, fun _ => ?_⟩
    repeat (first | refine ⟨_, mg_Fs rfl rfl, ?_⟩ | refine ⟨Or.inl rfl, ?_⟩ | refine ⟨Or.inr ⟨_, rfl⟩, ?_⟩ | refine ⟨fun _ => ?_, fun h => absurd h (by decide)⟩ | refine ⟨fun h => absurd h (by decide), fun _ => ?_⟩)
    refine mg_m_mono (r298D d hM2.2.1.1 hv2) (by omega) ?_
    rintro o q G3 ⟨rfl, rfl, hV⟩
    have hI3 := hV.X.I hM2.2.1.1
    have hM3 := hM2.z hI3 hV.X.z
    repeat (first | refine ⟨_, mg_Fs rfl rfl, ?_⟩ | refine ⟨Or.inl rfl, ?_⟩ | refine ⟨Or.inr ⟨_, rfl⟩, ?_⟩ | refine ⟨fun _ => ?_, fun h => absurd h (by decide)⟩ | refine ⟨fun h => absurd h (by decide), fun _ => ?_⟩)
    refine mg_m_mono (r299 d hI3 hv2 (a_best_lt hW hv2)) (by omega) ?_
    rintro o q G4 ⟨rfl, rfl, hI4, hz4, -⟩
    exact ⟨Or.inr rfl, (hM3.z hI4 hz4).Q⟩
/-- a statement -/
theorem r250 (d : Nat) (h : tI G A l p) (hp : p ≤ l.length) {k : Nat} (hk : k_kd l p = some k) : mg_m (mg_KM scr t) (d + 791) 250 [.ref 148] G (rD G l (tC A l p k)) := by
  have hM := h.M
  obtain ⟨h8, hK, hlt, hw⟩ := k_kd_w hk
  have kd := r243 (scr := scr) (t := t) d h.2.1 h.2.2 hp
  rw [k_kd_df hk] at kd
  have w3 := r213c (scr := scr) (t := t) d h.2.1 h.2.2 hp (a := 47) (by unfold k_ok; omega) (by decide) (b := 32) (by decide)
  rw [show k_wd l p (k_str 32) = decide (3 = k) from hw 3 (by decide)] at w3
  have w4 := r213c (scr := scr) (t := t) d h.2.1 h.2.2 hp (a := 48) (by unfold k_ok; omega) (by decide) (b := 33) (by decide)
  rw [show k_wd l p (k_str 33) = decide (4 = k) from hw 4 (by decide)] at w4
  have w7 := r213c (scr := scr) (t := t) d h.2.1 h.2.2 hp (a := 49) (by unfold k_ok; omega) (by decide) (b := 36) (by decide)
  rw [show k_wd l p (k_str 36) = decide (7 = k) from hw 7 (by decide)] at w7
  have fin : ∀ {o q G1}, rD G l (tC A l p k) o q G1 → ∃ b : Bool, o = .inl (some (.int (b2 b))) ∧ q = 0 ∧ rD G l (tC A l p k) (.inl (some (.int (b2 b)))) 0 G1 := fun {o q G1} w => by
    cases e : tC A l p k with
    | inl e1 =>
      rw [e] at w
      obtain ⟨rfl, a2, rfl, a4⟩ := w
      exact ⟨false, rfl, rfl, rfl, a2, rfl, a4⟩
    | inr x =>
      rw [e] at w
      obtain ⟨rfl, a2, rfl, a4⟩ := w
      exact ⟨true, rfl, rfl, rfl, a2, rfl, a4⟩
  by_cases h3 : k < 3
  · rw [decide_eq_true h3] at kd
    have kc : mg_m (mg_KM scr t) (d + 790) 242 [.ref 148] G (rD G l (tC A l p k)) := by
      by_cases h0 : k = 0
      · subst h0
        exact r242f d h hp hk
      · exact mg_m_mono (r242n d h hp hk (by omega)) (by omega) (fun _ _ _ w => w)
    refine mg_me [] 60 my_250 ms_250 (Nat.le_of_ble_eq_true rfl) ?_
    repeat (first | refine ⟨_, mg_Fs rfl rfl, ?_⟩ | refine ⟨Or.inl rfl, ?_⟩ | refine ⟨Or.inr ⟨_, rfl⟩, ?_⟩ | refine ⟨fun _ => ?_, fun h => absurd h (by decide)⟩ | refine ⟨fun h => absurd h (by decide), fun _ => ?_⟩)
    refine mg_cv (kd) (by omega) ?_
    refine ⟨fun q => absurd q (by decide), fun _ => ?_⟩
    repeat (first | refine ⟨_, mg_Fs rfl rfl, ?_⟩ | refine ⟨Or.inl rfl, ?_⟩ | refine ⟨Or.inr ⟨_, rfl⟩, ?_⟩ | refine ⟨fun _ => ?_, fun h => absurd h (by decide)⟩ | refine ⟨fun h => absurd h (by decide), fun _ => ?_⟩)
    refine mg_m_mono (kc) (by omega) ?_
    rintro o q G1 w
    obtain ⟨b, rfl, rfl, w2⟩ := fin w
    exact ⟨Or.inr (by cases b <;> rfl), w2⟩
  rw [decide_eq_false h3] at kd
  rcases (show k = 3 ∨ k = 4 ∨ k = 5 ∨ k = 6 ∨ k = 7 by omega) with rfl | rfl | rfl | rfl | rfl
  · refine mg_me [] 60 my_250 ms_250 (Nat.le_of_ble_eq_true rfl) ?_
    repeat (first | refine ⟨_, mg_Fs rfl rfl, ?_⟩ | refine ⟨Or.inl rfl, ?_⟩ | refine ⟨Or.inr ⟨_, rfl⟩, ?_⟩ | refine ⟨fun _ => ?_, fun h => absurd h (by decide)⟩ | refine ⟨fun h => absurd h (by decide), fun _ => ?_⟩)
    refine mg_cv (kd) (by omega) ?_
    refine ⟨fun _ => ?_, fun q => absurd rfl q⟩
    repeat (first | refine ⟨_, mg_Fs rfl rfl, ?_⟩ | refine ⟨Or.inl rfl, ?_⟩ | refine ⟨Or.inr ⟨_, rfl⟩, ?_⟩ | refine ⟨fun _ => ?_, fun h => absurd h (by decide)⟩ | refine ⟨fun h => absurd h (by decide), fun _ => ?_⟩)
    refine mg_cv (w3) (by omega) ?_
    refine ⟨fun q => absurd q (by decide), fun _ => ?_⟩
    repeat (first | refine ⟨_, mg_Fs rfl rfl, ?_⟩ | refine ⟨Or.inl rfl, ?_⟩ | refine ⟨Or.inr ⟨_, rfl⟩, ?_⟩ | refine ⟨fun _ => ?_, fun h => absurd h (by decide)⟩ | refine ⟨fun h => absurd h (by decide), fun _ => ?_⟩)
    refine mg_m_mono (r248 d h hp) (by omega) ?_
    rintro o q G1 w
    obtain ⟨b, rfl, rfl, w2⟩ := fin w
    exact ⟨Or.inr (by cases b <;> rfl), w2⟩
  · refine mg_me [] 60 my_250 ms_250 (Nat.le_of_ble_eq_true rfl) ?_
    repeat (first | refine ⟨_, mg_Fs rfl rfl, ?_⟩ | refine ⟨Or.inl rfl, ?_⟩ | refine ⟨Or.inr ⟨_, rfl⟩, ?_⟩ | refine ⟨fun _ => ?_, fun h => absurd h (by decide)⟩ | refine ⟨fun h => absurd h (by decide), fun _ => ?_⟩)
    refine mg_cv (kd) (by omega) ?_
    refine ⟨fun _ => ?_, fun q => absurd rfl q⟩
    repeat (first | refine ⟨_, mg_Fs rfl rfl, ?_⟩ | refine ⟨Or.inl rfl, ?_⟩ | refine ⟨Or.inr ⟨_, rfl⟩, ?_⟩ | refine ⟨fun _ => ?_, fun h => absurd h (by decide)⟩ | refine ⟨fun h => absurd h (by decide), fun _ => ?_⟩)
    refine mg_cv (w3) (by omega) ?_
    refine ⟨fun _ => ?_, fun q => absurd rfl q⟩
    repeat (first | refine ⟨_, mg_Fs rfl rfl, ?_⟩ | refine ⟨Or.inl rfl, ?_⟩ | refine ⟨Or.inr ⟨_, rfl⟩, ?_⟩ | refine ⟨fun _ => ?_, fun h => absurd h (by decide)⟩ | refine ⟨fun h => absurd h (by decide), fun _ => ?_⟩)
    refine mg_cv (w4) (by omega) ?_
    refine ⟨fun q => absurd q (by decide), fun _ => ?_⟩
    repeat (first | refine ⟨_, mg_Fs rfl rfl, ?_⟩ | refine ⟨Or.inl rfl, ?_⟩ | refine ⟨Or.inr ⟨_, rfl⟩, ?_⟩ | refine ⟨fun _ => ?_, fun h => absurd h (by decide)⟩ | refine ⟨fun h => absurd h (by decide), fun _ => ?_⟩)
    refine mg_m_mono (r249 d h hp) (by omega) ?_
    rintro o q G1 w
    obtain ⟨b, rfl, rfl, w2⟩ := fin w
    exact ⟨Or.inr (by cases b <;> rfl), w2⟩
  · refine mg_me [] 60 my_250 ms_250 (Nat.le_of_ble_eq_true rfl) ?_
    repeat (first | refine ⟨_, mg_Fs rfl rfl, ?_⟩ | refine ⟨Or.inl rfl, ?_⟩ | refine ⟨Or.inr ⟨_, rfl⟩, ?_⟩ | refine ⟨fun _ => ?_, fun h => absurd h (by decide)⟩ | refine ⟨fun h => absurd h (by decide), fun _ => ?_⟩)
    refine mg_cv (kd) (by omega) ?_
    refine ⟨fun _ => ?_, fun q => absurd rfl q⟩
    repeat (first | refine ⟨_, mg_Fs rfl rfl, ?_⟩ | refine ⟨Or.inl rfl, ?_⟩ | refine ⟨Or.inr ⟨_, rfl⟩, ?_⟩ | refine ⟨fun _ => ?_, fun h => absurd h (by decide)⟩ | refine ⟨fun h => absurd h (by decide), fun _ => ?_⟩)
    refine mg_cv (w3) (by omega) ?_
    refine ⟨fun _ => ?_, fun q => absurd rfl q⟩
    repeat (first | refine ⟨_, mg_Fs rfl rfl, ?_⟩ | refine ⟨Or.inl rfl, ?_⟩ | refine ⟨Or.inr ⟨_, rfl⟩, ?_⟩ | refine ⟨fun _ => ?_, fun h => absurd h (by decide)⟩ | refine ⟨fun h => absurd h (by decide), fun _ => ?_⟩)
    refine mg_cv (w4) (by omega) ?_
    refine ⟨fun _ => ?_, fun q => absurd rfl q⟩
    repeat (first | refine ⟨_, mg_Fs rfl rfl, ?_⟩ | refine ⟨Or.inl rfl, ?_⟩ | refine ⟨Or.inr ⟨_, rfl⟩, ?_⟩ | refine ⟨fun _ => ?_, fun h => absurd h (by decide)⟩ | refine ⟨fun h => absurd h (by decide), fun _ => ?_⟩)
    refine mg_cv (w7) (by omega) ?_
    refine ⟨fun _ => ?_, fun q => absurd rfl q⟩
    repeat (first | refine ⟨_, mg_Fs rfl rfl, ?_⟩ | refine ⟨Or.inl rfl, ?_⟩ | refine ⟨Or.inr ⟨_, rfl⟩, ?_⟩ | refine ⟨fun _ => ?_, fun h => absurd h (by decide)⟩ | refine ⟨fun h => absurd h (by decide), fun _ => ?_⟩)
    refine mg_m_mono (r247 d h hp hk (Or.inl rfl)) (by omega) ?_
    rintro o q G1 w
    obtain ⟨b, rfl, rfl, w2⟩ := fin w
    exact ⟨Or.inr (by cases b <;> rfl), w2⟩
  · refine mg_me [] 60 my_250 ms_250 (Nat.le_of_ble_eq_true rfl) ?_
    repeat (first | refine ⟨_, mg_Fs rfl rfl, ?_⟩ | refine ⟨Or.inl rfl, ?_⟩ | refine ⟨Or.inr ⟨_, rfl⟩, ?_⟩ | refine ⟨fun _ => ?_, fun h => absurd h (by decide)⟩ | refine ⟨fun h => absurd h (by decide), fun _ => ?_⟩)
    refine mg_cv (kd) (by omega) ?_
    refine ⟨fun _ => ?_, fun q => absurd rfl q⟩
    repeat (first | refine ⟨_, mg_Fs rfl rfl, ?_⟩ | refine ⟨Or.inl rfl, ?_⟩ | refine ⟨Or.inr ⟨_, rfl⟩, ?_⟩ | refine ⟨fun _ => ?_, fun h => absurd h (by decide)⟩ | refine ⟨fun h => absurd h (by decide), fun _ => ?_⟩)
    refine mg_cv (w3) (by omega) ?_
    refine ⟨fun _ => ?_, fun q => absurd rfl q⟩
    repeat (first | refine ⟨_, mg_Fs rfl rfl, ?_⟩ | refine ⟨Or.inl rfl, ?_⟩ | refine ⟨Or.inr ⟨_, rfl⟩, ?_⟩ | refine ⟨fun _ => ?_, fun h => absurd h (by decide)⟩ | refine ⟨fun h => absurd h (by decide), fun _ => ?_⟩)
    refine mg_cv (w4) (by omega) ?_
    refine ⟨fun _ => ?_, fun q => absurd rfl q⟩
    repeat (first | refine ⟨_, mg_Fs rfl rfl, ?_⟩ | refine ⟨Or.inl rfl, ?_⟩ | refine ⟨Or.inr ⟨_, rfl⟩, ?_⟩ | refine ⟨fun _ => ?_, fun h => absurd h (by decide)⟩ | refine ⟨fun h => absurd h (by decide), fun _ => ?_⟩)
    refine mg_cv (w7) (by omega) ?_
    refine ⟨fun _ => ?_, fun q => absurd rfl q⟩
    repeat (first | refine ⟨_, mg_Fs rfl rfl, ?_⟩ | refine ⟨Or.inl rfl, ?_⟩ | refine ⟨Or.inr ⟨_, rfl⟩, ?_⟩ | refine ⟨fun _ => ?_, fun h => absurd h (by decide)⟩ | refine ⟨fun h => absurd h (by decide), fun _ => ?_⟩)
    refine mg_m_mono (r247 d h hp hk (Or.inr rfl)) (by omega) ?_
    rintro o q G1 w
    obtain ⟨b, rfl, rfl, w2⟩ := fin w
    exact ⟨Or.inr (by cases b <;> rfl), w2⟩
  · refine mg_me [] 60 my_250 ms_250 (Nat.le_of_ble_eq_true rfl) ?_
    repeat (first | refine ⟨_, mg_Fs rfl rfl, ?_⟩ | refine ⟨Or.inl rfl, ?_⟩ | refine ⟨Or.inr ⟨_, rfl⟩, ?_⟩ | refine ⟨fun _ => ?_, fun h => absurd h (by decide)⟩ | refine ⟨fun h => absurd h (by decide), fun _ => ?_⟩)
    refine mg_cv (kd) (by omega) ?_
    refine ⟨fun _ => ?_, fun q => absurd rfl q⟩
    repeat (first | refine ⟨_, mg_Fs rfl rfl, ?_⟩ | refine ⟨Or.inl rfl, ?_⟩ | refine ⟨Or.inr ⟨_, rfl⟩, ?_⟩ | refine ⟨fun _ => ?_, fun h => absurd h (by decide)⟩ | refine ⟨fun h => absurd h (by decide), fun _ => ?_⟩)
    refine mg_cv (w3) (by omega) ?_
    refine ⟨fun _ => ?_, fun q => absurd rfl q⟩
    repeat (first | refine ⟨_, mg_Fs rfl rfl, ?_⟩ | refine ⟨Or.inl rfl, ?_⟩ | refine ⟨Or.inr ⟨_, rfl⟩, ?_⟩ | refine ⟨fun _ => ?_, fun h => absurd h (by decide)⟩ | refine ⟨fun h => absurd h (by decide), fun _ => ?_⟩)
    refine mg_cv (w4) (by omega) ?_
    refine ⟨fun _ => ?_, fun q => absurd rfl q⟩
    repeat (first | refine ⟨_, mg_Fs rfl rfl, ?_⟩ | refine ⟨Or.inl rfl, ?_⟩ | refine ⟨Or.inr ⟨_, rfl⟩, ?_⟩ | refine ⟨fun _ => ?_, fun h => absurd h (by decide)⟩ | refine ⟨fun h => absurd h (by decide), fun _ => ?_⟩)
    refine mg_cv (w7) (by omega) ?_
    refine ⟨fun q => absurd q (by decide), fun _ => ?_⟩
    repeat (first | refine ⟨_, mg_Fs rfl rfl, ?_⟩ | refine ⟨Or.inl rfl, ?_⟩ | refine ⟨Or.inr ⟨_, rfl⟩, ?_⟩ | refine ⟨fun _ => ?_, fun h => absurd h (by decide)⟩ | refine ⟨fun h => absurd h (by decide), fun _ => ?_⟩)
    refine mg_m_mono (r301D d h.1) (by omega) ?_
    rintro o q G1 ⟨rfl, rfl, hI1, hz1⟩
    repeat (first | refine ⟨_, mg_Fs rfl rfl, ?_⟩ | refine ⟨Or.inl rfl, ?_⟩ | refine ⟨Or.inr ⟨_, rfl⟩, ?_⟩ | refine ⟨fun _ => ?_, fun h => absurd h (by decide)⟩ | refine ⟨fun h => absurd h (by decide), fun _ => ?_⟩)
    refine mg_m_mono (r210M d (hM.z hI1 hz1) hp) (by omega) ?_
    rintro o q G2 ⟨rfl, rfl, w⟩
    exact ⟨Or.inr rfl, w.Q⟩
end RM
