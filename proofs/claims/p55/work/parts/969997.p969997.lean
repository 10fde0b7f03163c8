theorem mg_rem16 : ∀ x, x < 16 → Int32.ofNat x - Int32.ofNat x / (Int8.ofInt 8).toInt32 * (Int8.ofInt 8).toInt32 = Int32.ofNat (x % 8) := by decide +kernel
section KC
variable {scr : Nat × (Nat → Int32)} {t : List mg_S} {G : mg_G} {A : a_A} {l : List Nat} {p : Nat}
theorem kc_t3 : kT (mg_KC scr t) 27 28 600 := ⟨rfl, rfl, by decide, by decide⟩
/-- what is done to a row, the rows ahead of it as they were -/
def yRw (G : mg_G) (row n : Nat) (T : a_T) : mg_Q := fun o q G' => o = .inl none ∧ q = 0 ∧ cRow G' 28 row n T ∧ (∀ i, i < 4 * row → G'.2.1 28 i = G.2.1 28 i) ∧ mg_fr (fun a => a = 28) G G'
theorem c54 (d : Nat) {nv row : Nat} (h8 : nv ≤ 8) (hw : G.2.2.2.2 27 1 = .int (Int32.ofNat (a_wds nv))) {T : a_T} (hT : cRow G 28 row (a_wds nv) T) (hrow : row + 3 ≤ 150) (x : yPx) (hx : ∀ b v, x = some (b, v) → v < nv) : mg_m (mg_KC scr t) (d + 3) 54 [.ref 3, .int (Int32.ofNat (yPn x)), .int (Int32.ofNat row)] G (yRw G row (a_wds nv) (yAp x T)) := by
  obtain ⟨hn, -⟩ := a_wds_i nv h8
  have h4 : a_wds nv ≤ 4 := by omega
  match x, hx with
  | none, _ =>
    refine mg_me [] 60 my_54 ms_54 (Nat.le_of_ble_eq_true rfl) ?_
    refine ⟨fun q => absurd rfl q, fun _ => ?_⟩
    repeat (first | refine ⟨_, mg_Fs rfl rfl, ?_⟩ | refine ⟨Or.inl rfl, ?_⟩ | refine ⟨Or.inr ⟨_, rfl⟩, ?_⟩ | refine ⟨fun _ => ?_, fun h => absurd h (by decide)⟩ | refine ⟨fun h => absurd h (by decide), fun _ => ?_⟩)
    refine mg_cn (c84 d row row kc_t3 hw h4 (by omega) (by omega)) (by omega) ?_
    refine ⟨rfl, rfl, fun w hw2 => ?_, fun i hi => cW_at _ _ _ _ _ _ (by omega), mg_fr.cW _ _ _ _ rfl⟩
    rw [cW_in _ _ _ _ _ _ hw2]
    show G.2.1 28 (4 * row + w) ^^^ (-1 : Int64) = a_wd (a_tb4 _) w
    rw [a_wd4 _ w (by omega), hT w hw2]
  | some (b, v), hx =>
    have hv := hx b v rfl
    have hx16 : yPn (some (b, v)) < 16 := by cases b <;> (show _ < 16; simp only [yPn]; omega)
    have hx8 : yPn (some (b, v)) % 8 = v := by cases b <;> (simp only [yPn]; omega)
    have e8 := mg_rem16 _ hx16
    rw [hx8] at e8
    have k1 := c86 (K := mg_KC scr t) (G := G) d (row + 1) row v false kc_t3 hw hn (by omega) (fun h6 => a_wds_v _ h8 v hv h6) (by omega) (by omega) (by omega) hT
    rw [← e8, ← mg_inc row] at k1
    have hT1 : cRow (cW G 28 (row + 1) (a_wds nv) (a_wd (a_cf T v false))) 28 row (a_wds nv) T := hT.ne (by omega) h4 h4
    have k2 := c86 (K := mg_KC scr t) (G := cW G 28 (row + 1) (a_wds nv) (a_wd (a_cf T v false))) d (row + 2) row v true kc_t3 hw hn (by omega) (fun h6 => a_wds_v _ h8 v hv h6) (by omega) (by omega) (by omega) hT1
    rw [← e8, show Int32.ofNat (row + 2) = Int32.ofNat row + Int32.ofInt 2 from Int32.ofNat_add row 2] at k2
    have k3 := fun op : Int32 => c82 (K := mg_KC scr t) (G := cW (cW G 28 (row + 1) (a_wds nv) (a_wd (a_cf T v false))) 28 (row + 2) (a_wds nv) (a_wd (a_cf T v true))) d row (row + 1) (row + 2) kc_t3 op hw h4 (by omega) (by omega) (by omega)
    rw [show Int32.ofNat (row + 2) = Int32.ofNat row + Int32.ofInt 2 from Int32.ofNat_add row 2, ← mg_inc row] at k3
    have fin : ∀ op : Int32, op = (if b then 0 else 1) → yRw G row (a_wds nv) (yAp (some (b, v)) T) (.inl none) 0 (cW (cW (cW G 28 (row + 1) (a_wds nv) (a_wd (a_cf T v false))) 28 (row + 2) (a_wds nv) (a_wd (a_cf T v true))) 28 row (a_wds nv) (fun w => a_comb op ((cW (cW G 28 (row + 1) (a_wds nv) (a_wd (a_cf T v false))) 28 (row + 2) (a_wds nv) (a_wd (a_cf T v true))).2.1 28 (4 * (row + 1) + w)) ((cW (cW G 28 (row + 1) (a_wds nv) (a_wd (a_cf T v false))) 28 (row + 2) (a_wds nv) (a_wd (a_cf T v true))).2.1 28 (4 * (row + 2) + w)))) := fun op hop => by
      refine ⟨rfl, rfl, fun w hw2 => ?_, fun i hi => ?_, ((mg_fr.cW (p := fun a => a = 28) _ _ _ _ rfl).tr (mg_fr.cW _ _ _ _ rfl)).tr (mg_fr.cW _ _ _ _ rfl)⟩
      · rw [cW_in _ _ _ _ _ _ hw2, cW_in _ _ _ _ _ _ hw2, cW_at _ _ _ _ _ _ (by omega), cW_in _ _ _ _ _ _ hw2, hop]
        show _ = a_wd (a_tb4 _) w
        rw [a_wd4 _ w (by omega)]
      · rw [cW_at _ _ _ _ _ _ (by omega), cW_at _ _ _ _ _ _ (by omega), cW_at _ _ _ _ _ _ (by omega)]
    refine mg_me [] 60 my_54 ms_54 (Nat.le_of_ble_eq_true rfl) ?_
    refine ⟨fun _ => ?_, fun q => absurd ((mg_eqN (b := 16) (by omega) (by decide)).mp q) (by omega)⟩
    repeat (first | refine ⟨_, mg_Fs rfl rfl, ?_⟩ | refine ⟨Or.inl rfl, ?_⟩ | refine ⟨Or.inr ⟨_, rfl⟩, ?_⟩ | refine ⟨fun _ => ?_, fun h => absurd h (by decide)⟩ | refine ⟨fun h => absurd h (by decide), fun _ => ?_⟩)
    refine mg_cn (k1) (by omega) ?_
    repeat (first | refine ⟨_, mg_Fs rfl rfl, ?_⟩ | refine ⟨Or.inl rfl, ?_⟩ | refine ⟨Or.inr ⟨_, rfl⟩, ?_⟩ | refine ⟨fun _ => ?_, fun h => absurd h (by decide)⟩ | refine ⟨fun h => absurd h (by decide), fun _ => ?_⟩)
    refine mg_cn (k2) (by omega) ?_
    cases b with
    | true =>
      repeat (first | refine ⟨_, mg_Fs rfl rfl, ?_⟩ | refine ⟨Or.inl rfl, ?_⟩ | refine ⟨Or.inr ⟨_, rfl⟩, ?_⟩ | refine ⟨fun _ => ?_, fun h => absurd h (by decide)⟩ | refine ⟨fun h => absurd h (by decide), fun _ => ?_⟩)
      refine ⟨fun q => absurd q (mg_nlt (a := 8) (b := v + 8) (by omega) (by omega)), fun _ => ?_⟩
      repeat (first | refine ⟨_, mg_Fs rfl rfl, ?_⟩ | refine ⟨Or.inl rfl, ?_⟩ | refine ⟨Or.inr ⟨_, rfl⟩, ?_⟩ | refine ⟨fun _ => ?_, fun h => absurd h (by decide)⟩ | refine ⟨fun h => absurd h (by decide), fun _ => ?_⟩)
      refine mg_cn (k3 0) (by omega) ?_
      exact fin 0 rfl
    | false =>
      repeat (first | refine ⟨_, mg_Fs rfl rfl, ?_⟩ | refine ⟨Or.inl rfl, ?_⟩ | refine ⟨Or.inr ⟨_, rfl⟩, ?_⟩ | refine ⟨fun _ => ?_, fun h => absurd h (by decide)⟩ | refine ⟨fun h => absurd h (by decide), fun _ => ?_⟩)
      refine ⟨fun _ => ?_, fun q => absurd q (mg_nle (a := v) (b := 8) (by omega) (by decide))⟩
      repeat (first | refine ⟨_, mg_Fs rfl rfl, ?_⟩ | refine ⟨Or.inl rfl, ?_⟩ | refine ⟨Or.inr ⟨_, rfl⟩, ?_⟩ | refine ⟨fun _ => ?_, fun h => absurd h (by decide)⟩ | refine ⟨fun h => absurd h (by decide), fun _ => ?_⟩)
      refine mg_cn (k3 1) (by omega) ?_
      exact fin 1 rfl
end KC
