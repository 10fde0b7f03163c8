/-! THE LAW: word and say, over a text made anew (String 155, its bytes 156) -/
/-- the String's part of the memory: the builder, its bytes (twice), the String, its bytes; m bytes made room for, l the text's length -/
def shS (m l : Nat) : List mg_S := [.inr (12, [none, none, none, none]), .inl (2, 16), .inl (2, m), .inr (11, [some (.ref 156), some (.int 0), none, none]), .inl (2, l)]
abbrev mg_KS (scr : Nat × (Nat → Int32)) (n m l : Nat) : mg_K := mg_KT scr n (shS m l)
/-- the text's bytes stand at 156 -/
def sB (G : mg_G) (l : List Nat) : Prop := ∀ i, i < l.length → G.1 156 i = Int32.ofNat (l.getD i 0) ∧ l.getD i 0 < 128
theorem sB.fr {G G' : mg_G} {l : List Nat} (h : sB G l) (f : cFr148 G G') : sB G' l := fun i hi => ⟨(congrFun (f 156 (by show ¬ 156 < 148; decide)).1 i).trans (h i hi).1, (h i hi).2⟩
/-- four letters in one int -/
def sw_l (l : List Nat) (at_ : Nat) : Nat → Int32
  | 0 => 0
  | i + 1 => (sw_l l at_ i <<< ((Int8.ofInt 8).toInt32 &&& 31)) ||| (if at_ + i < l.length then Int32.ofNat (l.getD (at_ + i) 0) else (Int8.ofInt 32).toInt32)
theorem sb_and : ∀ c, c < 128 → Int32.ofNat c &&& (Int16.ofInt 255).toInt32 = Int32.ofNat c := by decide +kernel
theorem mg_isS {K : mg_K} {a : Nat} {T : List (Option Value)} {r : List Value} (h : K.2[a]? = some (.inr (11, T))) (ha : a < 1000000) : mg_isr K 100 (.ref a :: r) := by
  show (if a < 1000000 then ∃ T, K.2[a]? = some (.inr (11, T)) else ((mg_P K).2.1 a 0).isSome = true)
  rw [if_pos ha]
  exact ⟨T, h⟩
section TS
variable {scr : Nat × (Nat → Int32)} {n m : Nat} {l : List Nat} {G : mg_G}
theorem s333 (d : Nat) : mg_m (mg_KS scr n m l.length) (d + 1) 333 [.ref 155] G (mg_v (.int 0) G) := by
  refine mg_me [] 20 my_333 ms_333 (Nat.le_of_ble_eq_true rfl) ?_
  refine ⟨fun h => absurd h (by decide), fun _ => ?_⟩
  refine ⟨by decide, _, mg_Fs rfl rfl, ?_⟩
  exact ⟨Or.inr rfl, rfl, rfl, rfl⟩
theorem s334 (d : Nat) : mg_m (mg_KS scr n m l.length) (d + 1) 334 [.ref 155] G (mg_v (.int 1) G) := by
  refine mg_me [] 20 my_334 ms_334 (Nat.le_of_ble_eq_true rfl) ?_
  refine ⟨fun h => absurd h (by decide), fun _ => ?_⟩
  refine ⟨by decide, _, mg_Fs rfl rfl, ?_⟩
  refine ⟨fun h => absurd rfl h, fun _ => ?_⟩
  exact ⟨Or.inr rfl, rfl, rfl, rfl⟩
theorem s331 (d : Nat) : mg_m (mg_KS scr n m l.length) (d + 2) 331 [.ref 155] G (mg_v (.int (Int32.ofNat l.length)) G) := by
  refine mg_me [] 20 my_331 ms_331 (Nat.le_of_ble_eq_true rfl) ?_
  refine ⟨by decide, _, mg_Fs rfl rfl, 2, l.length, _, mg_Ab rfl (by decide), by decide, ?_⟩
  refine ⟨Or.inr (mg_isS rfl (by decide)), mg_cv (s333 d) (by omega) ?_⟩
  exact ⟨Or.inl rfl, congrArg (fun x => (Sum.inl (some (Value.int x)) : Option Value ⊕ String)) (sb_shr0 (Int32.ofNat l.length)), rfl, rfl⟩
theorem s332 (d : Nat) (hl : l.length < 1000) (hB : sB G l) {i : Nat} (hi : i < l.length) : mg_m (mg_KS scr n m l.length) (d + 4) 332 [.ref 155, .int (Int32.ofNat i)] G (mg_v (.int (Int32.ofNat (l.getD i 0))) G) := by
  obtain ⟨h1, h2⟩ := hB i hi
  refine mg_me [] 20 my_332 ms_332 (Nat.le_of_ble_eq_true rfl) ?_
  refine ⟨Or.inr (mg_isS rfl (by decide)), mg_cv (s334 d) (by omega) ?_⟩
  refine ⟨fun h => absurd h (by decide), fun _ => ?_⟩
  refine ⟨by decide, _, mg_Fs rfl rfl, ?_⟩
  refine ⟨Or.inl rfl, ?_⟩
  refine mg_cv (j336 d (b := 156) (n := l.length) (f := G.1 156) (mg_Ab rfl (by decide)) (by omega) hi (c := l.getD i 0) (by rw [h1]; exact sb_and _ h2) (by omega)) (by omega) ?_
  exact ⟨Or.inr (mg_ch _ (by omega)), rfl, rfl, rfl⟩
theorem s204 (d : Nat) (hl : l.length < 1000) (hB : sB G l) {a : Nat} (ha : a < 1000) : mg_m (mg_KS scr n m l.length) (d + 5) 204 [.ref 155, .int (Int32.ofNat a)] G (mg_v (.int (sw_l l a 4)) G) := by
  refine mg_me [4] 20 my_204 ms_204 (Nat.le_of_ble_eq_true rfl) ?_
  refine mg_loop 4 (fun k L G' => L = [some (.ref 155), some (.int (Int32.ofNat a)), some (.int (sw_l l a k)), some (.int (Int32.ofNat (a + k)))] ∧ G' = G) ?_ ?_ _ _ ⟨rfl, rfl⟩
  · rintro k L G' hk ⟨rfl, rfl⟩ ih
    refine mg_go [4] 60 4 ms_204 ?_
    have e4 : Int32.ofNat a + Int32.ofInt 4 = Int32.ofNat (a + 4) := (Int32.ofNat_add a 4).symm
    refine ⟨fun h => absurd (show Int32.ofNat a + Int32.ofInt 4 ≤ Int32.ofNat (a + k) from h) (by rw [e4]; exact mg_nle (show a + k < a + 4 by omega) (by omega)), fun _ => ?_⟩
    refine ⟨Or.inr (mg_isS rfl (by decide)), mg_cv (s331 (d + 2)) (by omega) ?_⟩
    refine ⟨fun h => ?_, fun h => ?_⟩
    · have h9 := (mg_leN (by omega) (by omega)).mp h
      refine ih _ _ ⟨?_, rfl⟩
      rw [show a + (k + 1) = a + k + 1 by omega, ← mg_inc (a + k)]
      show _ = ([some (.ref 155), some (.int (Int32.ofNat a)), some (.int ((sw_l l a k <<< ((Int8.ofInt 8).toInt32 &&& 31)) ||| (if a + k < l.length then Int32.ofNat (l.getD (a + k) 0) else (Int8.ofInt 32).toInt32))), some (.int (Int32.ofNat (a + k) + Int32.ofInt 1))] : mm_L)
      rw [if_neg (by omega)]
    · have h9 := (mg_ltN (by omega) (by omega)).mp h
      refine ⟨Or.inr (mg_isS rfl (by decide)), mg_cv (s332 d hl hB h9) (by omega) ?_⟩
      refine ih _ _ ⟨?_, rfl⟩
      rw [show a + (k + 1) = a + k + 1 by omega, ← mg_inc (a + k)]
      show _ = ([some (.ref 155), some (.int (Int32.ofNat a)), some (.int ((sw_l l a k <<< ((Int8.ofInt 8).toInt32 &&& 31)) ||| (if a + k < l.length then Int32.ofNat (l.getD (a + k) 0) else (Int8.ofInt 32).toInt32))), some (.int (Int32.ofNat (a + k) + Int32.ofInt 1))] : mm_L)
      rw [if_pos h9]
  · rintro L G' ⟨rfl, rfl⟩
    refine mg_go [] 60 4 ms_204 ?_
    have e4 : Int32.ofNat a + Int32.ofInt 4 = Int32.ofNat (a + 4) := (Int32.ofNat_add a 4).symm
    exact ⟨fun _ => ⟨Or.inl rfl, rfl, rfl, rfl⟩, fun h => absurd (show Int32.ofNat (a + 4) < Int32.ofNat a + Int32.ofInt 4 from h) (by rw [e4]; exact Int32.lt_irrefl)⟩
/-- what the buffer holds behind j appends -/
def sy_l (l : List Nat) : Nat → List Nat
  | 0 => []
  | j + 1 => sy_l l j ++ a_by (sw_l l (20 * j) 4) ++ a_by (sw_l l (20 * j + 4) 4) ++ a_by (sw_l l (20 * j + 8) 4) ++ a_by (sw_l l (20 * j + 12) 4) ++ a_by (sw_l l (20 * j + 16) 4)
theorem sy_len (l : List Nat) : ∀ j, (sy_l l j).length = 20 * j
  | 0 => rfl
  | j + 1 => by
    have h : ∀ x, (a_by x).length = 4 := fun _ => rfl
    simp only [sy_l, List.length_append, h, sy_len l j]
    omega
/-- appends that end behind j of them -/
def sy_ok (l : List Nat) (J : Nat) : Prop := l.length < 400 ∧ l.length ≤ 20 * J ∧ (∀ j, j < J → 20 * j < l.length) ∧ J < 25 ∧ (sy_l l J).take l.length = l
theorem s205w (d : Nat) {J : Nat} (hJ : sy_ok l J) {S0 : a_S} : ∀ (q j : Nat) (G : mg_G), j + q = J → cT G (sInS S0 (sy_l l j)) → sB G l → mg_wp (mg_KS scr n m l.length) mc_205 (d + 25) 2 [some (.ref 0), some (.ref 155), some (.int (Int32.ofNat (20 * j)))] [] G (fun o k G' => o = .inl (some (.int 1)) ∧ k ≤ 2 * q + 2 ∧ cT G' (sInS S0 l) ∧ cFr148 G G') := by
  obtain ⟨h1, h2, h3, h4, h5⟩ := hJ
  intro q
  induction q with
  | zero =>
    intro j G hj hT hB
    obtain rfl : j = J := by omega
    refine mg_go [] 40 2 ms_205 ?_
    refine ⟨Or.inr (mg_isS rfl (by decide)), mg_cv (s331 (d + 20)) (by omega) ?_⟩
    refine ⟨fun _ => ?_, fun h => absurd ((mg_ltN (by omega) (by omega)).mp h) (by omega)⟩
    refine ⟨Or.inr (mg_isS rfl (by decide)), mg_cv (s331 (d + 20)) (by omega) ?_⟩
    have h9 := c105 (scr := scr) (t := shT n ++ shS m l.length) d hT (Int32.ofNat l.length)
    have e : p207 (sInS S0 (sy_l l j)) (Int32.ofNat l.length) = (sInS S0 l, (0, Int32.ofNat l.length)) := by
      unfold p207
      rw [vi_of (show l.length < (sIn (sInS S0 (sy_l l j))).length + 1 by show l.length < (sy_l l j).length + 1; rw [sy_len]; omega) (by show (sy_l l j).length + 1 < 2147483648; rw [sy_len]; omega)]
      show (sInS (sInS S0 (sy_l l j)) ((sy_l l j).take l.length), _) = _
      rw [h5]
      rfl
    unfold cAp at h9
    rw [e] at h9
    refine ⟨Or.inr ⟨_, rfl⟩, ?_⟩
    refine cA_go h9 (by omega) ?_
    intro q1 G1 hq1 hT1 hF1
    refine ⟨Or.inr (mg_isS rfl (by decide)), mg_cv (s331 (d + 20)) (by omega) ?_⟩
    refine ⟨fun h => absurd rfl h, fun _ => ?_⟩
    exact ⟨Or.inr rfl, rfl, by omega, hT1, hF1⟩
  | succ q ih =>
    intro j G hj hT hB
    have hlt := h3 j (by omega)
    have a4 : ∀ c : Nat, Int32.ofNat (20 * j) + Int32.ofNat c = Int32.ofNat (20 * j + c) := fun c => (Int32.ofNat_add _ c).symm
    refine mg_go [2] 60 2 ms_205 ?_
    refine ⟨Or.inr (mg_isS rfl (by decide)), mg_cv (s331 (d + 20)) (by omega) ?_⟩
    refine ⟨fun h => absurd h (mg_nle hlt (by omega)), fun _ => ?_⟩
    refine ⟨Or.inl rfl, mg_cv (s204 (d + 20) (by omega) hB (a := 20 * j) (by omega)) (by omega) ?_⟩
    have w1 := s204 (scr := scr) (n := n) (m := m) (d + 20) (by omega) hB (a := 20 * j + 4) (by omega)
    have w2 := s204 (scr := scr) (n := n) (m := m) (d + 20) (by omega) hB (a := 20 * j + 8) (by omega)
    have w3 := s204 (scr := scr) (n := n) (m := m) (d + 20) (by omega) hB (a := 20 * j + 12) (by omega)
    have w4 := s204 (scr := scr) (n := n) (m := m) (d + 20) (by omega) hB (a := 20 * j + 16) (by omega)
    rw [← a4] at w1 w2 w3 w4
    refine ⟨Or.inl rfl, mg_cv w1 (by omega) ?_⟩
    refine ⟨Or.inl rfl, mg_cv w2 (by omega) ?_⟩
    refine ⟨Or.inl rfl, mg_cv w3 (by omega) ?_⟩
    refine ⟨Or.inl rfl, mg_cv w4 (by omega) ?_⟩
    have h9 := c104 (scr := scr) (t := shT n ++ shS m l.length) d hT (sw_l l (20 * j) 4) (sw_l l (20 * j + 4) 4) (sw_l l (20 * j + 8) 4) (sw_l l (20 * j + 12) 4) (sw_l l (20 * j + 16) 4)
    have e : p206 (sInS S0 (sy_l l j)) (sw_l l (20 * j) 4) (sw_l l (20 * j + 4) 4) (sw_l l (20 * j + 8) 4) (sw_l l (20 * j + 12) 4) (sw_l l (20 * j + 16) 4) = (sInS S0 (sy_l l (j + 1)), (0, Int32.ofNat ((sy_l l j).length + 20))) := by
      unfold p206
      rw [if_pos (show (sIn (sInS S0 (sy_l l j))).length + 20 ≤ 600 by show (sy_l l j).length + 20 ≤ 600; rw [sy_len]; omega)]
      rfl
    unfold cAp at h9
    rw [e] at h9
    refine ⟨Or.inr ⟨_, rfl⟩, ?_⟩
    refine cA_go h9 (by omega) ?_
    intro q1 G1 hq1 hT1 hF1
    have e20 : Int32.ofNat (20 * j) + Int32.ofInt 20 = Int32.ofNat (20 * (j + 1)) := (Int32.ofNat_add (20 * j) 20).symm
    refine mg_wp_mono (mg_wp_L (ih (j + 1) G1 (by omega) hT1 (hB.fr hF1)) (by rw [← e20])) ?_
    rintro o k G2 ⟨rfl, g1, g2, g3⟩
    exact ⟨rfl, by omega, g2, hF1.tr g3⟩
theorem s205 (d : Nat) {J : Nat} (hJ : sy_ok l J) {S : a_S} (hT : cT G S) (h0 : sIn S = []) (hB : sB G l) : mg_m (mg_KS scr n m l.length) (d + 26) 205 [.ref 0, .ref 155] G (fun o k G' => o = .inl (some (.int 1)) ∧ k ≤ 52 ∧ cT G' (sInS S l) ∧ cFr148 G G') := by
  have e : sInS S (sy_l l 0) = S := by
    show (sA S, sU S, sV S, ([] : List Nat), S.2.2.2.2) = S
    rw [← h0]
  refine mg_me [2] 20 my_205 ms_205 (Nat.le_of_ble_eq_true rfl) ?_
  refine mg_wp_mono (s205w (scr := scr) (n := n) (m := m) d hJ (S0 := S) J 0 G (Nat.zero_add _) (by rw [e]; exact hT) hB) ?_
  rintro o k G' ⟨rfl, g1, g2, g3⟩
  exact ⟨rfl, by have := hJ.2.2.2.1; omega, g2, g3⟩
end TS
