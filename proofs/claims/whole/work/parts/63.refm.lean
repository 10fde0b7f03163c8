/-! REFERENCE: levels, tests, support -/
section RM
variable {scr : Nat × (Nat → Int32)} {t : List mg_S}
theorem r256_l (d : Nat) (G : mg_G) (x : Int32) (lev : Nat) (hl : lev < 100) (he : G.1 149 (2 + lev) = x) (hno : ∀ j, j < lev → G.1 149 (2 + j) ≠ x) : ∀ (m j : Nat), j + m = lev → mg_wp (mg_KM scr t) mc_256 d 2 [some (.ref 148), some (.int x), some (.int (Int32.ofNat j))] [] G (mg_v (.int (Int32.ofNat lev)) G) := by
  intro m
  induction m with
  | zero =>
    intro j h
    have ej : j = lev := by omega
    subst ej
    refine mg_go [2] 40 2 ms_256 ?_
    refine ⟨_, mg_Fs rfl rfl, _, _, 2 + j, mg_Ai rfl (by decide), mg_ixE (by rw [Int32.ofNat_add]; rfl) (by omega), by omega, ?_⟩
    exact ⟨fun _ => ⟨Or.inl rfl, rfl, rfl, rfl⟩, fun h => absurd he h⟩
  | succ m ih =>
    intro j h
    refine mg_go [2] 40 2 ms_256 ?_
    refine ⟨_, mg_Fs rfl rfl, _, _, 2 + j, mg_Ai rfl (by decide), mg_ixE (by rw [Int32.ofNat_add]; rfl) (by omega), by omega, ?_⟩
    refine ⟨fun h2 => absurd h2 (hno j (by omega)), fun _ => ?_⟩
    have := ih (j + 1) (by omega)
    rw [← mg_inc j] at this
    exact this
theorem r256 (d : Nat) (G : mg_G) (x : Int32) (lev : Nat) (hl : lev < 100) (he : G.1 149 (2 + lev) = x) (hno : ∀ j, j < lev → G.1 149 (2 + j) ≠ x) : mg_m (mg_KM scr t) (d + 1) 256 [.ref 148, .int x] G (mg_v (.int (Int32.ofNat lev)) G) := by
  refine mg_me [2] 10 my_256 ms_256 (Nat.le_of_ble_eq_true rfl) ?_
  exact r256_l d G x lev hl he hno lev 0 (by omega)
theorem r258_l (d f nv : Nat) (hf : f < 144) (G : mg_G) (hn : G.1 149 0 = Int32.ofNat nv) (h8 : nv ≤ 8) : ∀ (m k : Nat), k + m = nv → mg_wp (mg_KM scr t) mc_258 (d + 4) 4 [some (.ref 148), some (.int (Int32.ofNat f)), some (.int (a_sum (fun v => if a_dep (G.2.1 154) (a_tb G f) v then (1 : Int32) <<< (Int32.ofNat v &&& 31) else 0) k)), some (.int (Int32.ofNat k))] [] G (mg_v (.int (a_sum (fun v => if a_dep (G.2.1 154) (a_tb G f) v then (1 : Int32) <<< (Int32.ofNat v &&& 31) else 0) nv)) G) := by
  intro m
  induction m with
  | zero =>
    intro k h
    refine mg_go [4] 60 4 ms_258 ?_
    refine ⟨Or.inr ⟨_, rfl⟩, mg_cv (r178n (d + 3) hn) (by omega) ⟨fun _ => ?_, fun h2 => ?_⟩⟩
    · exact ⟨Or.inl rfl, by rw [show k = nv by omega], rfl, rfl⟩
    · have := (mg_ltN (by omega) (by omega)).mp h2
      omega
  | succ m ih =>
    intro k h
    have hnx := ih (k + 1) (by omega)
    rw [← mg_inc k] at hnx
    refine mg_go [4] 60 4 ms_258 ?_
    refine ⟨Or.inr ⟨_, rfl⟩, mg_cv (r178n (d + 3) hn) (by omega) ⟨fun h2 => ?_, fun _ => ?_⟩⟩
    · have := (mg_leN (by omega) (by omega)).mp h2
      omega
    refine ⟨Or.inr ⟨_, rfl⟩, mg_cv (r191 d f k hf (by omega) G) (by omega) ?_⟩
    have es : a_sum (fun v => if a_dep (G.2.1 154) (a_tb G f) v then (1 : Int32) <<< (Int32.ofNat v &&& 31) else 0) (k + 1) = a_sum (fun v => if a_dep (G.2.1 154) (a_tb G f) v then (1 : Int32) <<< (Int32.ofNat v &&& 31) else 0) k + (if a_dep (G.2.1 154) (a_tb G f) k then (1 : Int32) <<< (Int32.ofNat k &&& 31) else 0) := rfl
    rw [es] at hnx
    cases hd : a_dep (G.2.1 154) (a_tb G f) k with
    | true =>
      rw [hd, if_pos rfl] at hnx
      exact ⟨fun h => absurd h (by decide), fun _ => hnx⟩
    | false =>
      rw [hd, if_neg (by decide)] at hnx
      exact ⟨fun _ => hnx, fun h => absurd rfl h⟩
theorem r258 (d f nv : Nat) (hf : f < 144) (G : mg_G) (hn : G.1 149 0 = Int32.ofNat nv) (h8 : nv ≤ 8) : mg_m (mg_KM scr t) (d + 5) 258 [.ref 148, .int (Int32.ofNat f)] G (mg_v (.int (a_sum (fun v => if a_dep (G.2.1 154) (a_tb G f) v then (1 : Int32) <<< (Int32.ofNat v &&& 31) else 0) nv)) G) := by
  refine mg_me [4] 10 my_258 ms_258 (Nat.le_of_ble_eq_true rfl) ?_
  exact r258_l d f nv hf G hn h8 nv 0 (by omega)
end RM
