theorem cS_setC {G : mg_G} {A : a_A} (h : cS G 4 A) {i : Nat} (x : Int32) : cS (mg_sI G 10 i x) 4 (setC A i x) := by
  obtain ⟨g1, g2, g3, g4, g5, g6, g7, g8, g9⟩ := h
  refine ⟨g1, g2, g3, g4, g5, g6, fun j hj => (congrFun (mg_sI_nb G i _ (show (9 : Nat) ≠ 10 by decide)) j).trans (g7 j hj), fun j hj => ?_, fun j hj => (congrFun (mg_sI_nb G i _ (show (11 : Nat) ≠ 10 by decide)) j).trans (g9 j hj)⟩
  show _ = mg_u (aC A) i x j
  by_cases e : j = i
  · subst e
    rw [mg_u_eq]
    exact mg_sI_eq _ _ _ _
  · rw [mg_u_ne _ _ e]
    exact (mg_sI_ne _ _ _ _ e).trans (g8 j hj)
theorem cS_setP {G : mg_G} {A : a_A} (h : cS G 4 A) {i : Nat} (x : Int32) : cS (mg_sI G 11 i x) 4 (setP A i x) := by
  obtain ⟨g1, g2, g3, g4, g5, g6, g7, g8, g9⟩ := h
  refine ⟨g1, g2, g3, g4, g5, g6, fun j hj => (congrFun (mg_sI_nb G i _ (show (9 : Nat) ≠ 11 by decide)) j).trans (g7 j hj), fun j hj => (congrFun (mg_sI_nb G i _ (show (10 : Nat) ≠ 11 by decide)) j).trans (g8 j hj), fun j hj => ?_⟩
  show _ = mg_u (aP A) i x j
  by_cases e : j = i
  · subst e
    rw [mg_u_eq]
    exact mg_sI_eq _ _ _ _
  · rw [mg_u_ne _ _ e]
    exact (mg_sI_ne _ _ _ _ e).trans (g9 j hj)
section KC
variable {scr : Nat × (Nat → Int32)} {t : List mg_S} {G G0 : mg_G} {A : a_A} {l : List Nat} {p : Nat}
/-- its semicolon -/
theorem c42e (d : Nat) (hM : sM G0 G A l p) (hp : p ≤ l.length) (e1 e2 e3 e4 e5 e6 e7 : Option Value) : mg_wp (mg_KC scr t) mc_42 (d + 3) 376 [some (.ref 3), e1, e2, e3, e4, e5, e6, e7] [] G (cD G0 l (if k_is l p 59 = true then .inr (A, k_E l p) else .inl (1, k_S l p))) := by
  cases b : k_is l p 59 with
  | false =>
    rw [if_neg (by decide)]
    refine mg_go [] 60 376 ms_42 ?_
    repeat (first | refine ⟨_, mg_Fs rfl rfl, ?_⟩ | refine ⟨Or.inl rfl, ?_⟩ | refine ⟨Or.inr ⟨_, rfl⟩, ?_⟩ | refine ⟨fun _ => ?_, fun h => absurd h (by decide)⟩ | refine ⟨fun h => absurd h (by decide), fun _ => ?_⟩)
    refine mg_m_mono (c46x d hM.2.1.2.2.1 hM.2.1.2.2.2.2.1 (c := 59) (by decide) b) (by omega) ?_
    rintro o q G1 ⟨rfl, rfl, rfl⟩
    exact hM.x 1
  | true =>
    rw [if_pos rfl]
    refine mg_go [] 60 376 ms_42 ?_
    repeat (first | refine ⟨_, mg_Fs rfl rfl, ?_⟩ | refine ⟨Or.inl rfl, ?_⟩ | refine ⟨Or.inr ⟨_, rfl⟩, ?_⟩ | refine ⟨fun _ => ?_, fun h => absurd h (by decide)⟩ | refine ⟨fun h => absurd h (by decide), fun _ => ?_⟩)
    refine mg_m_mono (c46y d hM.2.1.2.2.1 hM.2.1.2.2.2.1 hM.2.1.2.2.2.2.1 hp (c := 59) (by decide) b) (by omega) ?_
    rintro o q G1 ⟨rfl, rfl, w1, w2, w3⟩
    exact (hM.t w1 w2 w3).Q
/-- what a statement's core leads to -/
def tE (l : List Nat) (r : sR) : sR := match r with
  | .inl e => .inl e
  | .inr x => if k_is l x.2 59 = true then .inr (x.1, k_E l x.2) else .inl (1, k_S l x.2)
theorem c48M (d : Nat) (hM : sM G0 G A l p) (hp : p ≤ l.length) (f : Nat → Nat → sR) : mg_m (mg_KC scr t) (d + 3) 48 [.ref 3] G (fun o q G' => (∃ v, v < aV A ∧ k_v A l p = some v ∧ tVar A l p f = f v (k_E l p) ∧ o = .inl (some (.int (Int32.ofNat v))) ∧ q = 0 ∧ sM G0 G' A l (k_E l p)) ∨ (∃ e, tVar A l p f = .inl e ∧ o = .inr xA ∧ q = 1 ∧ cD G0 l (.inl e) (.inr xA) 1 G')) := by
  obtain ⟨hS, hW, hN, hB, hk, h5⟩ := hM.2.1
  unfold tVar
  cases b : k_nm l p with
  | false =>
    refine mg_m_mono (c48n d hk hp b) (by omega) ?_
    rintro o q G1 ⟨rfl, rfl, rfl⟩
    exact Or.inr ⟨_, if_neg (by decide), rfl, rfl, hM.x 1⟩
  | true =>
    cases hv : k_v A l p with
    | none =>
      refine mg_m_mono (c48x d hS hW hk hp b hv) (by omega) ?_
      rintro o q G1 ⟨rfl, rfl, rfl⟩
      exact Or.inr ⟨_, if_pos rfl, rfl, rfl, hM.x 3⟩
    | some v =>
      refine mg_m_mono (c48y d hN hB hS hW hk hp b hv) (by omega) ?_
      rintro o q G1 ⟨rfl, rfl, w1, w2, w3⟩
      exact Or.inl ⟨v, k_at_lt hv, rfl, if_pos rfl, rfl, rfl, hM.t w1 w2 w3⟩
theorem c49M (d : Nat) (hM : sM G0 G A l p) (hp : p ≤ l.length) (f : Nat → Nat → sR) : mg_m (mg_KC scr t) (d + 3) 49 [.ref 3] G (fun o q G' => (∃ v, v < aF A ∧ tFun A l p f = f v (k_E l p) ∧ o = .inl (some (.int (Int32.ofNat v))) ∧ q = 0 ∧ sM G0 G' A l (k_E l p)) ∨ (∃ e, tFun A l p f = .inl e ∧ o = .inr xA ∧ q = 1 ∧ cD G0 l (.inl e) (.inr xA) 1 G')) := by
  obtain ⟨hS, hW, hN, hB, hk, h5⟩ := hM.2.1
  unfold tFun
  cases b : k_nm l p with
  | false =>
    refine mg_m_mono (c49n d hk hp b) (by omega) ?_
    rintro o q G1 ⟨rfl, rfl, rfl⟩
    exact Or.inr ⟨_, if_neg (by decide), rfl, rfl, hM.x 1⟩
  | true =>
    cases hv : k_f A l p with
    | none =>
      refine mg_m_mono (c49x d hS hW hk hp b hv) (by omega) ?_
      rintro o q G1 ⟨rfl, rfl, rfl⟩
      exact Or.inr ⟨_, if_pos rfl, rfl, rfl, hM.x 3⟩
    | some v =>
      refine mg_m_mono (c49y d hN hB hS hW hk hp b hv) (by omega) ?_
      rintro o q G1 ⟨rfl, rfl, w1, w2, w3⟩
      exact Or.inl ⟨v, k_at_lt hv, if_pos rfl, rfl, rfl, hM.t w1 w2 w3⟩
/-- a number below b: b - 1 is given -/
theorem c47M (d : Nat) (hM : sM G0 G A l p) (hp : p ≤ l.length) {b : Nat} (hb : b < 1000) {m : Int32} (hm : m = Int32.ofNat b - Int32.ofInt 1) (f : Nat → Nat → sR) : mg_m (mg_KC scr t) (d + 3) 47 [.ref 3, .int m] G (fun o q G' => (k_N l p < b ∧ tNum l p b f = f (k_N l p) (k_E l p) ∧ o = .inl (some (.int (Int32.ofNat (k_N l p)))) ∧ q = 0 ∧ sM G0 G' A l (k_E l p)) ∨ (∃ e, tNum l p b f = .inl e ∧ o = .inr xA ∧ q = 1 ∧ cD G0 l (.inl e) (.inr xA) 1 G')) := by
  obtain ⟨hS, hW, hN, hB, hk, h5⟩ := hM.2.1
  subst hm
  unfold tNum
  by_cases h2 : k_K l p = 2
  · have hN9 := k_N_lt hp h2
    by_cases h3 : k_N l p < b
    · rw [show Int32.ofNat b - Int32.ofInt 1 = Int32.ofNat (b - 1) from mg_subN (b := 1) (by omega)]
      refine mg_m_mono (c47y d hN hB hk hp h2 (m := b - 1) (by omega) (by omega)) (by omega) ?_
      rintro o q G1 ⟨rfl, rfl, w1, w2, w3⟩
      exact Or.inl ⟨h3, by rw [if_pos h2, if_pos h3], rfl, rfl, hM.t w1 w2 w3⟩
    · by_cases h0 : b = 0
      · subst h0
        have hneg : ¬ Int32.ofNat (k_N l p) ≤ Int32.ofNat 0 - Int32.ofInt 1 := fun q => by
          have := Int32.le_iff_toInt_le.mp q
          rw [mg_toN (by omega), show (Int32.ofNat 0 - Int32.ofInt 1).toInt = -1 from by decide] at this
          omega
        have key : mg_m (mg_KC scr t) (d + 2) 47 [.ref 3, .int (Int32.ofNat 0 - Int32.ofInt 1)] G (fun o q G' => o = .inr xA ∧ q = 1 ∧ G' = yX G 2 l p) := by
          refine mg_me [] 60 my_47 ms_47 (Nat.le_of_ble_eq_true rfl) ?_
          repeat (first | refine ⟨_, mg_Fs rfl rfl, ?_⟩ | refine ⟨Or.inl rfl, ?_⟩ | refine ⟨Or.inr ⟨_, rfl⟩, ?_⟩ | refine ⟨fun _ => ?_, fun h => absurd h (by decide)⟩ | refine ⟨fun h => absurd h (by decide), fun _ => ?_⟩)
          refine ⟨_, mg_Fe hk.2.1 rfl rfl, fun _ => ?_, fun q => absurd (by rw [h2]; rfl) q⟩
          repeat (first | refine ⟨_, mg_Fs rfl rfl, ?_⟩ | refine ⟨Or.inl rfl, ?_⟩ | refine ⟨Or.inr ⟨_, rfl⟩, ?_⟩ | refine ⟨fun _ => ?_, fun h => absurd h (by decide)⟩ | refine ⟨fun h => absurd h (by decide), fun _ => ?_⟩)
          refine mg_cn (c39y d 1) (by omega) ?_
          repeat (first | refine ⟨_, mg_Fs rfl rfl, ?_⟩ | refine ⟨Or.inl rfl, ?_⟩ | refine ⟨Or.inr ⟨_, rfl⟩, ?_⟩ | refine ⟨fun _ => ?_, fun h => absurd h (by decide)⟩ | refine ⟨fun h => absurd h (by decide), fun _ => ?_⟩)
          refine ⟨_, mg_Fe (hk.2.2.2.2.1 h2) rfl rfl, fun q => absurd q hneg, fun _ => ?_⟩
          repeat (first | refine ⟨_, mg_Fs rfl rfl, ?_⟩ | refine ⟨Or.inl rfl, ?_⟩ | refine ⟨Or.inr ⟨_, rfl⟩, ?_⟩ | refine ⟨fun _ => ?_, fun h => absurd h (by decide)⟩ | refine ⟨fun h => absurd h (by decide), fun _ => ?_⟩)
          refine mg_m_mono (c39x d hk 2) (by omega) ?_
          rintro o q G1 ⟨rfl, rfl, rfl⟩
          exact ⟨rfl, rfl, rfl⟩
        refine mg_m_mono key (by omega) ?_
        rintro o q G1 ⟨rfl, rfl, rfl⟩
        exact Or.inr ⟨_, by rw [if_pos h2, if_neg h3], rfl, rfl, hM.x 2⟩
      · rw [show Int32.ofNat b - Int32.ofInt 1 = Int32.ofNat (b - 1) from mg_subN (b := 1) (by omega)]
        refine mg_m_mono (c47x d hk hp h2 (m := b - 1) (by omega) (by omega)) (by omega) ?_
        rintro o q G1 ⟨rfl, rfl, rfl⟩
        exact Or.inr ⟨_, by rw [if_pos h2, if_neg h3], rfl, rfl, hM.x 2⟩
  · refine mg_m_mono (c47n d hk h2 _) (by omega) ?_
    rintro o q G1 ⟨rfl, rfl, rfl⟩
    exact Or.inr ⟨_, if_neg h2, rfl, rfl, hM.x 1⟩
theorem c43 (d k : Nat) (hk : k < 8) : mg_m (mg_KC scr t) (d + 1) 43 [.int (Int32.ofNat k)] G (mg_v (.int (if k = 1 ∨ k = 2 ∨ k = 5 ∨ k = 6 then 1 else 0)) G) := by
  rcases (show k = 0 ∨ k = 1 ∨ k = 2 ∨ k = 3 ∨ k = 4 ∨ k = 5 ∨ k = 6 ∨ k = 7 by omega) with rfl | rfl | rfl | rfl | rfl | rfl | rfl | rfl <;> (
    refine mg_me [] 60 my_43 ms_43 (Nat.le_of_ble_eq_true rfl) ?_
    repeat (first | refine ⟨_, mg_Fs rfl rfl, ?_⟩ | refine ⟨Or.inl rfl, ?_⟩ | refine ⟨Or.inr ⟨_, rfl⟩, ?_⟩ | refine ⟨fun _ => ?_, fun h => absurd h (by decide)⟩ | refine ⟨fun h => absurd h (by decide), fun _ => ?_⟩)
    exact ⟨Or.inr rfl, rfl, rfl, rfl⟩)
/-- the head of a statement: what stands is allowed, its word is taken -/
theorem c42h (d : Nat) (hM : sM G0 G A l p) (hp : p ≤ l.length) (sc : Bool) {many : Nat} (hm : sc = true → many ≤ 30) (Q : mg_Q)
    (hQ : ∀ G1 k, k_kd l p = some k → ¬ (sc = false ∧ 3 ≤ k) → ¬ (sc = true ∧ many = 30) → ¬ (k = 0 ∧ aF A = 12) → sM G0 G1 A l (k_E l p) → mg_wp (mg_KC scr t) mc_42 (d + 200) 82 [some (.ref 3), some (.int (b2 sc)), some (.int (Int32.ofNat many)), some (.int (Int32.ofNat k)), none, none, none, none] [] G1 Q)
    (hE : ∀ c : Int32, (match k_kd l p with
    | none => some (1 : Int32)
    | some k => if sc = false ∧ 3 ≤ k then some 1 else if sc = true ∧ many = 30 then some 5 else if k = 0 ∧ aF A = 12 then some 5 else none) = some c → ∀ o q G1, o = .inr xA → q = 1 → cD G0 l (.inl (c, k_S l p)) (.inr xA) 1 G1 → Q o q G1) : mg_m (mg_KC scr t) (d + 201) 42 [.ref 3, .int (b2 sc), .int (Int32.ofNat many)] G Q := by
  obtain ⟨hS, hW, hN, hB, hk, h5⟩ := hM.2.1
  have hf12 := hW.2.2.1
  have k44 := c44 (scr := scr) (t := t) d hN hB hk hp
  cases hkd : k_kd l p with
  | none =>
    rw [hkd] at hE k44
    refine mg_me [82] 120 my_42 ms_42 (Nat.le_of_ble_eq_true rfl) ?_
    repeat (first | refine ⟨_, mg_Fs rfl rfl, ?_⟩ | refine ⟨Or.inl rfl, ?_⟩ | refine ⟨Or.inr ⟨_, rfl⟩, ?_⟩ | refine ⟨fun _ => ?_, fun h => absurd h (by decide)⟩ | refine ⟨fun h => absurd h (by decide), fun _ => ?_⟩)
    refine mg_cv (k44) (by omega) ?_
    refine ⟨fun _ => ?_, fun q => absurd rfl q⟩
    repeat (first | refine ⟨_, mg_Fs rfl rfl, ?_⟩ | refine ⟨Or.inl rfl, ?_⟩ | refine ⟨Or.inr ⟨_, rfl⟩, ?_⟩ | refine ⟨fun _ => ?_, fun h => absurd h (by decide)⟩ | refine ⟨fun h => absurd h (by decide), fun _ => ?_⟩)
    refine mg_m_mono (c39M d hM 1) (by omega) ?_
    rintro o q G1 ⟨rfl, rfl, w⟩
    exact hE 1 rfl _ _ _ rfl rfl w
  | some k =>
    obtain ⟨h8, hK, hlt, hw⟩ := k_kd_w hkd
    rw [hkd] at hE k44
    have st : mg_wp (mg_KC scr t) mc_42 (d + 200) 5 [some (.ref 3), some (.int (b2 sc)), some (.int (Int32.ofNat many)), some (.int (Int32.ofNat k)), none, none, none, none] [] G Q → mg_m (mg_KC scr t) (d + 201) 42 [.ref 3, .int (b2 sc), .int (Int32.ofNat many)] G Q := fun g => by
      refine mg_me [5] 120 my_42 ms_42 (Nat.le_of_ble_eq_true rfl) ?_
      repeat (first | refine ⟨_, mg_Fs rfl rfl, ?_⟩ | refine ⟨Or.inl rfl, ?_⟩ | refine ⟨Or.inr ⟨_, rfl⟩, ?_⟩ | refine ⟨fun _ => ?_, fun h => absurd h (by decide)⟩ | refine ⟨fun h => absurd h (by decide), fun _ => ?_⟩)
      refine mg_cv (k44) (by omega) ?_
      exact g
    refine st ?_
    by_cases hA : sc = false ∧ 3 ≤ k
    · obtain ⟨rfl, h3⟩ := hA
      refine mg_go [29] 120 5 ms_42 ?_
      refine ⟨fun q => absurd q (mg_n1 (by omega)), fun _ => ⟨fun q => absurd q (mg_nlt (a := 3) h3 (by omega)), fun _ => ⟨fun q => absurd rfl q, fun _ => ?_⟩⟩⟩
      repeat (first | refine ⟨_, mg_Fs rfl rfl, ?_⟩ | refine ⟨Or.inl rfl, ?_⟩ | refine ⟨Or.inr ⟨_, rfl⟩, ?_⟩ | refine ⟨fun _ => ?_, fun h => absurd h (by decide)⟩ | refine ⟨fun h => absurd h (by decide), fun _ => ?_⟩)
      refine mg_m_mono (c39M d hM 1) (by omega) ?_
      rintro o q G1 ⟨rfl, rfl, w⟩
      exact hE 1 (if_pos ⟨rfl, h3⟩) _ _ _ rfl rfl w
    have stA : mg_wp (mg_KC scr t) mc_42 (d + 200) 29 [some (.ref 3), some (.int (b2 sc)), some (.int (Int32.ofNat many)), some (.int (Int32.ofNat k)), none, none, none, none] [] G Q → mg_wp (mg_KC scr t) mc_42 (d + 200) 5 [some (.ref 3), some (.int (b2 sc)), some (.int (Int32.ofNat many)), some (.int (Int32.ofNat k)), none, none, none, none] [] G Q := fun g => by
      by_cases h3 : k < 3
      · refine mg_go [29] 120 5 ms_42 ?_
        refine ⟨fun q => absurd q (mg_n1 (by omega)), fun _ => ⟨fun _ => ?_, fun q => absurd q (mg_nle (b := 3) h3 (by decide))⟩⟩
        repeat (first | refine ⟨_, mg_Fs rfl rfl, ?_⟩ | refine ⟨Or.inl rfl, ?_⟩ | refine ⟨Or.inr ⟨_, rfl⟩, ?_⟩ | refine ⟨fun _ => ?_, fun h => absurd h (by decide)⟩ | refine ⟨fun h => absurd h (by decide), fun _ => ?_⟩)
        refine mg_cn (c39y d 1) (by omega) ?_
        exact g
      · cases sc with
        | false => exact absurd ⟨rfl, by omega⟩ hA
        | true =>
          refine mg_go [29] 120 5 ms_42 ?_
          refine ⟨fun q => absurd q (mg_n1 (by omega)), fun _ => ⟨fun q => absurd q (mg_nlt (a := 3) (by omega) (by omega)), fun _ => ⟨fun _ => ?_, fun q => absurd q (by decide)⟩⟩⟩
          repeat (first | refine ⟨_, mg_Fs rfl rfl, ?_⟩ | refine ⟨Or.inl rfl, ?_⟩ | refine ⟨Or.inr ⟨_, rfl⟩, ?_⟩ | refine ⟨fun _ => ?_, fun h => absurd h (by decide)⟩ | refine ⟨fun h => absurd h (by decide), fun _ => ?_⟩)
          refine mg_cn (c39y d 1) (by omega) ?_
          exact g
    refine stA ?_
    by_cases hB : sc = true ∧ many = 30
    · obtain ⟨rfl, rfl⟩ := hB
      refine mg_go [49] 120 29 ms_42 ?_
      refine ⟨fun q => absurd q (by decide), fun _ => ⟨fun q => absurd q (by decide), fun _ => ?_⟩⟩
      repeat (first | refine ⟨_, mg_Fs rfl rfl, ?_⟩ | refine ⟨Or.inl rfl, ?_⟩ | refine ⟨Or.inr ⟨_, rfl⟩, ?_⟩ | refine ⟨fun _ => ?_, fun h => absurd h (by decide)⟩ | refine ⟨fun h => absurd h (by decide), fun _ => ?_⟩)
      refine mg_m_mono (c39M d hM 5) (by omega) ?_
      rintro o q G1 ⟨rfl, rfl, w⟩
      exact hE 5 ((if_neg hA).trans (if_pos ⟨rfl, rfl⟩)) _ _ _ rfl rfl w
    have stB : mg_wp (mg_KC scr t) mc_42 (d + 200) 49 [some (.ref 3), some (.int (b2 sc)), some (.int (Int32.ofNat many)), some (.int (Int32.ofNat k)), none, none, none, none] [] G Q → mg_wp (mg_KC scr t) mc_42 (d + 200) 29 [some (.ref 3), some (.int (b2 sc)), some (.int (Int32.ofNat many)), some (.int (Int32.ofNat k)), none, none, none, none] [] G Q := fun g => by
      cases sc with
      | false =>
        refine mg_go [49] 120 29 ms_42 ?_
        refine ⟨fun _ => ?_, fun q => absurd rfl q⟩
        repeat (first | refine ⟨_, mg_Fs rfl rfl, ?_⟩ | refine ⟨Or.inl rfl, ?_⟩ | refine ⟨Or.inr ⟨_, rfl⟩, ?_⟩ | refine ⟨fun _ => ?_, fun h => absurd h (by decide)⟩ | refine ⟨fun h => absurd h (by decide), fun _ => ?_⟩)
        refine mg_cn (c39y d 5) (by omega) ?_
        exact g
      | true =>
        have hm2 : many < 30 := by
          have h1 : many ≠ 30 := fun z => hB ⟨rfl, z⟩
          have h2 := hm rfl
          omega
        refine mg_go [49] 120 29 ms_42 ?_
        refine ⟨fun q => absurd q (by decide), fun _ => ⟨fun _ => ?_, fun q => absurd q (mg_nle (b := 30) hm2 (by decide))⟩⟩
        repeat (first | refine ⟨_, mg_Fs rfl rfl, ?_⟩ | refine ⟨Or.inl rfl, ?_⟩ | refine ⟨Or.inr ⟨_, rfl⟩, ?_⟩ | refine ⟨fun _ => ?_, fun h => absurd h (by decide)⟩ | refine ⟨fun h => absurd h (by decide), fun _ => ?_⟩)
        refine mg_cn (c39y d 5) (by omega) ?_
        exact g
    refine stB ?_
    by_cases hC : k = 0 ∧ aF A = 12
    · obtain ⟨rfl, h12⟩ := hC
      refine mg_go [75] 120 49 ms_42 ?_
      refine ⟨fun q => absurd rfl q, fun _ => ?_⟩
      repeat (first | refine ⟨_, mg_Fs rfl rfl, ?_⟩ | refine ⟨Or.inl rfl, ?_⟩ | refine ⟨Or.inr ⟨_, rfl⟩, ?_⟩ | refine ⟨fun _ => ?_, fun h => absurd h (by decide)⟩ | refine ⟨fun h => absurd h (by decide), fun _ => ?_⟩)
      refine ⟨_, mg_Fe hS.2.1 rfl rfl, fun q => absurd q (by rw [h12]; decide), fun _ => ?_⟩
      repeat (first | refine ⟨_, mg_Fs rfl rfl, ?_⟩ | refine ⟨Or.inl rfl, ?_⟩ | refine ⟨Or.inr ⟨_, rfl⟩, ?_⟩ | refine ⟨fun _ => ?_, fun h => absurd h (by decide)⟩ | refine ⟨fun h => absurd h (by decide), fun _ => ?_⟩)
      refine mg_m_mono (c39M d hM 5) (by omega) ?_
      rintro o q G1 ⟨rfl, rfl, w⟩
      exact hE 5 ((if_neg hA).trans ((if_neg hB).trans (if_pos ⟨rfl, h12⟩))) _ _ _ rfl rfl w
    have stC : mg_wp (mg_KC scr t) mc_42 (d + 200) 75 [some (.ref 3), some (.int (b2 sc)), some (.int (Int32.ofNat many)), some (.int (Int32.ofNat k)), none, none, none, none] [] G Q → mg_wp (mg_KC scr t) mc_42 (d + 200) 49 [some (.ref 3), some (.int (b2 sc)), some (.int (Int32.ofNat many)), some (.int (Int32.ofNat k)), none, none, none, none] [] G Q := fun g => by
      by_cases h0 : k = 0
      · subst h0
        have h12 : aF A < 12 := by
          have : aF A ≠ 12 := fun z => hC ⟨rfl, z⟩
          omega
        refine mg_go [75] 120 49 ms_42 ?_
        refine ⟨fun q => absurd rfl q, fun _ => ?_⟩
        repeat (first | refine ⟨_, mg_Fs rfl rfl, ?_⟩ | refine ⟨Or.inl rfl, ?_⟩ | refine ⟨Or.inr ⟨_, rfl⟩, ?_⟩ | refine ⟨fun _ => ?_, fun h => absurd h (by decide)⟩ | refine ⟨fun h => absurd h (by decide), fun _ => ?_⟩)
        refine ⟨_, mg_Fe hS.2.1 rfl rfl, fun _ => ?_, fun q => absurd q (mg_nle (b := 12) h12 (by decide))⟩
        repeat (first | refine ⟨_, mg_Fs rfl rfl, ?_⟩ | refine ⟨Or.inl rfl, ?_⟩ | refine ⟨Or.inr ⟨_, rfl⟩, ?_⟩ | refine ⟨fun _ => ?_, fun h => absurd h (by decide)⟩ | refine ⟨fun h => absurd h (by decide), fun _ => ?_⟩)
        refine mg_cn (c39y d 5) (by omega) ?_
        exact g
      · refine mg_go [75] 120 49 ms_42 ?_
        refine ⟨fun _ => ?_, fun q => absurd ((mg_eqN (b := 0) (by omega) (by decide)).mp q) h0⟩
        repeat (first | refine ⟨_, mg_Fs rfl rfl, ?_⟩ | refine ⟨Or.inl rfl, ?_⟩ | refine ⟨Or.inr ⟨_, rfl⟩, ?_⟩ | refine ⟨fun _ => ?_, fun h => absurd h (by decide)⟩ | refine ⟨fun h => absurd h (by decide), fun _ => ?_⟩)
        refine mg_cn (c39y d 5) (by omega) ?_
        exact g
    refine stC ?_
    refine mg_go [82] 120 75 ms_42 ?_
    repeat (first | refine ⟨_, mg_Fs rfl rfl, ?_⟩ | refine ⟨Or.inl rfl, ?_⟩ | refine ⟨Or.inr ⟨_, rfl⟩, ?_⟩ | refine ⟨fun _ => ?_, fun h => absurd h (by decide)⟩ | refine ⟨fun h => absurd h (by decide), fun _ => ?_⟩)
    refine mg_m_mono (c93M d hM hp) (by omega) ?_
    rintro o q G1 ⟨rfl, rfl, w⟩
    exact hQ G1 k hkd hA hB hC w
end KC
