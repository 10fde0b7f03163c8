/-! TOKENS: what is asked of them -/
def k_is (l : List Nat) (p c : Nat) : Bool := decide (k_K l p = 3 ∧ l[k_S l p]? = some c)
def k_wd (l : List Nat) (p : Nat) (w : List Nat) : Bool := decide (k_K l p = 1 ∧ k_W l p = w)
abbrev w_all : List Nat := [97, 108, 108]
abbrev w_some : List Nat := [115, 111, 109, 101]
abbrev w_if : List Nat := [105, 102]
def k_kw (l : List Nat) (p : Nat) : Bool := k_wd l p w_all || (k_wd l p w_some || k_wd l p w_if)
def k_nm (l : List Nat) (p : Nat) : Bool := decide (k_K l p = 1) && !k_kw l p
def k_bit (l : List Nat) (p : Nat) : Bool := decide (k_K l p = 2 ∧ k_E l p = k_S l p + 1 ∧ k_N l p ≤ 1)
theorem k_K4 (l : List Nat) (p : Nat) : k_K l p ≤ 4 := by
  unfold k_K
  split
  · split <;> decide
  · split
    · split <;> decide
    · split <;> decide
theorem k_W_at {l : List Nat} {p : Nat} (hp : p ≤ l.length) (h : k_K l p = 1) {i : Nat} (hi : k_S l p + i < k_E l p) : ∃ c, l[k_S l p + i]? = some c ∧ (k_W l p)[i]? = some c ∧ 97 ≤ c ∧ c ≤ 122 := by
  obtain ⟨h1, -, h3⟩ := k_W_nm hp h
  obtain ⟨c, hc⟩ : ∃ c, (k_W l p)[i]? = some c := ⟨_, List.getElem?_eq_getElem (by omega)⟩
  refine ⟨c, ?_, hc, h1.1 c (List.mem_of_getElem? hc)⟩
  unfold k_W at hc
  rw [List.getElem?_take] at hc
  split at hc
  · rw [List.getElem?_drop] at hc
    exact hc
  · cases hc
theorem k_str_l : ∀ a, k_ok a → a ≠ 37 → (k_str a).length ≤ 7 := by
  intro a ha
  rcases ha with rfl | rfl | rfl | rfl | rfl | rfl | rfl | rfl | rfl | rfl | rfl | rfl | rfl | rfl | rfl | rfl | rfl | rfl | rfl | rfl | rfl | rfl <;> decide
theorem k_str_c : ∀ a, k_ok a → ∀ i, i < (k_str a).length → (k_str a)[i]? = some ((k_str a).getD i 0) ∧ (k_str a).getD i 0 < 128 := by
  intro a ha
  rcases ha with rfl | rfl | rfl | rfl | rfl | rfl | rfl | rfl | rfl | rfl | rfl | rfl | rfl | rfl | rfl | rfl | rfl | rfl | rfl | rfl | rfl | rfl <;> decide
theorem sub_ofN {a b : Nat} (h : b ≤ a) : Int32.ofNat a - Int32.ofNat b = Int32.ofNat (a - b) := by
  rw [show Int32.ofNat a = Int32.ofNat (a - b) + Int32.ofNat b from by rw [← Int32.ofNat_add, Nat.sub_add_cancel h], Int32.add_sub_cancel]
theorem jr {K : mg_K} {a : Nat} (ha : k_ok a) (r : List Value) : mg_isr K 100 (.ref (2000000 + a) :: r) := by
  rcases ha with rfl | rfl | rfl | rfl | rfl | rfl | rfl | rfl | rfl | rfl | rfl | rfl | rfl | rfl | rfl | rfl | rfl | rfl | rfl | rfl | rfl | rfl <;> rfl
section RM
variable {scr : Nat × (Nat → Int32)} {t : List mg_S} {G : mg_G} {l : List Nat} {p : Nat}
theorem r213 (d : Nat) (hI : rIn G l) (hk : rk G l p) (hp : p ≤ l.length) {a : Nat} (ha : k_ok a) (h37 : a ≠ 37) : mg_m (mg_KM scr t) (d + 5) 213 [.ref 148, .ref (2000000 + a)] G (mg_v (.int (b2 (k_wd l p (k_str a)))) G) := by
  obtain ⟨k22, k23, k24, -⟩ := hk
  have hl600 := hI.2.1
  have hK4 := k_K4 l p
  have hEle := k_E_le hp
  have hSE := k_E_ge l p
  have ha7 := k_str_l a ha h37
  have jl : mg_m (mg_KM scr t) (d + 2) 331 [.ref (2000000 + a)] G (mg_v (.int (Int32.ofNat (k_str a).length)) G) := j331 d ha
  have no : ¬ (k_K l p = 1 ∧ k_W l p = k_str a) → k_wd l p (k_str a) = false := fun h => decide_eq_false h
  by_cases h1 : k_K l p = 1
  · obtain ⟨n1, n2, n3⟩ := k_W_nm hp h1
    have n7 := n1.2
    have eS : Int32.ofNat (k_E l p) - Int32.ofNat (k_S l p) = Int32.ofNat (k_W l p).length := by rw [sub_ofN hSE, n3, Nat.add_sub_cancel_left]
    refine mg_me [28] 60 my_213 ms_213 (Nat.le_of_ble_eq_true rfl) ?_
    refine ⟨_, mg_Fe k23 rfl rfl, fun h => absurd (by rw [h1]; rfl) h, fun _ => ?_⟩
    refine ⟨_, mg_Fe k22 rfl rfl, _, mg_Fe k24 rfl rfl, Or.inr (jr ha _), mg_cv jl (by omega) ?_⟩
    refine ⟨fun h => ?_, fun h => ?_⟩
    · have h : Int32.ofNat (k_E l p) - Int32.ofNat (k_S l p) = Int32.ofNat (k_str a).length := h
      rw [eS] at h
      have hlen := (mg_eqN (by omega) (by omega)).mp h
      refine mg_loop (k_str a).length (fun k L G' => L = [some (.ref 148), some (.ref (2000000 + a)), some (.int (Int32.ofNat k))] ∧ G' = G ∧ ∀ j, j < k → (k_W l p)[j]? = (k_str a)[j]?) ?_ ?_ _ _ ⟨rfl, rfl, fun j hj => absurd hj (Nat.not_lt_zero j)⟩
      · rintro k L G' hkk ⟨rfl, rfl, hj⟩ ih
        obtain ⟨c, hc, hw, hc2, hc3⟩ := k_W_at hp h1 (i := k) (by omega)
        obtain ⟨e1, e2⟩ := k_str_c a ha k hkk
        have jc : mg_m (mg_KM scr t) (d + 4) 332 [.ref (2000000 + a), .int (Int32.ofNat k)] G' (mg_v (.int (Int32.ofNat ((k_str a).getD k 0))) G') := j332 d ha hkk
        refine mg_go [28] 60 28 ms_213 ?_
        refine ⟨Or.inr (jr ha _), mg_cv jl (by omega) ?_⟩
        refine ⟨fun h => absurd h (mg_nle hkk (by omega)), fun _ => ?_⟩
        refine ⟨_, mg_Fs rfl rfl, _, mg_Fe k24 rfl rfl, _, _, k_S l p + k, mg_Ai rfl (by decide), mg_ixE (Int32.ofNat_add _ _).symm (by omega), by omega, ?_⟩
        rw [(hI.2.2 _ _ hc).1]
        refine ⟨Or.inr (jr ha _), mg_cv jc (by omega) ?_⟩
        refine ⟨fun h => ?_, fun h => ?_⟩
        · have h := (mg_eqN (by omega) (by omega)).mp h
          refine ih _ _ ⟨by rw [mg_inc k] <;> rfl, rfl, fun j hjk => ?_⟩
          by_cases e : j = k
          · subst e
            rw [hw, e1, h]
          · exact hj j (by omega)
        · have hne : ¬ c = (k_str a).getD k 0 := fun q => h (by rw [q])
          refine ⟨Or.inr rfl, ?_, rfl, rfl⟩
          rw [no (fun q => hne (by
            have := q.2
            rw [this, e1] at hw
            exact (Option.some.inj hw).symm))]
          rfl
      · rintro L G' ⟨rfl, rfl, hj⟩
        have hall : k_W l p = k_str a := List.ext_getElem? fun i => by
          by_cases hi : i < (k_str a).length
          · exact hj i hi
          · rw [List.getElem?_eq_none (by omega), List.getElem?_eq_none (by omega)]
        refine mg_go [] 60 28 ms_213 ?_
        refine ⟨Or.inr (jr ha _), mg_cv jl (by omega) ?_⟩
        refine ⟨fun _ => ⟨Or.inr rfl, ?_, rfl, rfl⟩, fun h => absurd h (Int32.not_lt.mpr (Int32.le_refl _))⟩
        rw [show k_wd l p (k_str a) = true from decide_eq_true ⟨h1, hall⟩]
        rfl
    · have h : ¬ Int32.ofNat (k_E l p) - Int32.ofNat (k_S l p) = Int32.ofNat (k_str a).length := h
      rw [eS] at h
      refine ⟨Or.inr rfl, ?_, rfl, rfl⟩
      rw [no (fun q => h (by rw [q.2]))]
      rfl
  · refine mg_me [28] 60 my_213 ms_213 (Nat.le_of_ble_eq_true rfl) ?_
    refine ⟨_, mg_Fe k23 rfl rfl, fun _ => ⟨Or.inr rfl, ?_, rfl, rfl⟩, fun h => ?_⟩
    · rw [no (fun q => h1 q.1)]
      rfl
    · exact absurd ((mg_eqN (b := 1) (by omega) (by decide)).mp h) h1
theorem r214 (d : Nat) (hI : rIn G l) (hk : rk G l p) (hp : p ≤ l.length) {c : Nat} (hc : c < 128) : mg_m (mg_KM scr t) (d + 1) 214 [.ref 148, .int (Int32.ofNat c)] G (mg_v (.int (b2 (k_is l p c))) G) := by
  obtain ⟨k22, k23, k24, -⟩ := hk
  have hl600 := hI.2.1
  have hK4 := k_K4 l p
  have hSle := k_S_le hp
  by_cases h3 : k_K l p = 3
  · have hlt : k_S l p < l.length := by
      unfold k_K at h3
      split at h3
      · split at h3 <;> cases h3
      · split at h3
        · split at h3 <;> cases h3
        · split at h3
          · assumption
          · cases h3
    have hb := List.getElem?_eq_getElem hlt
    obtain ⟨b1, b2'⟩ := hI.2.2 _ _ hb
    refine mg_me [] 60 my_214 ms_214 (Nat.le_of_ble_eq_true rfl) ?_
    refine ⟨_, mg_Fe k23 rfl rfl, fun h => absurd (by rw [h3]; rfl) h, fun _ => ?_⟩
    repeat (first | refine ⟨_, mg_Fs rfl rfl, ?_⟩ | refine ⟨Or.inl rfl, ?_⟩ | refine ⟨Or.inr ⟨_, rfl⟩, ?_⟩ | refine ⟨fun _ => ?_, fun h => absurd h (by decide)⟩ | refine ⟨fun h => absurd h (by decide), fun _ => ?_⟩)
    refine ⟨_, mg_Fe k24 rfl rfl, _, _, k_S l p, mg_Ai rfl (by decide), mg_ixN (by omega), by omega, ?_⟩
    rw [b1]
    refine ⟨fun h => ⟨Or.inr rfl, ?_, rfl, rfl⟩, fun h => ⟨Or.inr rfl, ?_, rfl, rfl⟩⟩
    · rw [show k_is l p c = false from decide_eq_false (fun q => h (by
        have := q.2
        rw [hb] at this
        rw [Option.some.inj this]))]
      rfl
    · have h := (mg_eqN (by omega) (by omega)).mp h
      rw [show k_is l p c = true from decide_eq_true ⟨h3, by rw [hb, h]⟩]
      rfl
  · refine mg_me [] 60 my_214 ms_214 (Nat.le_of_ble_eq_true rfl) ?_
    refine ⟨_, mg_Fe k23 rfl rfl, fun _ => ⟨Or.inr rfl, ?_, rfl, rfl⟩, fun h => absurd ((mg_eqN (b := 3) (by omega) (by decide)).mp h) h3⟩
    rw [show k_is l p c = false from decide_eq_false (fun q => h3 q.1)]
    rfl
theorem r216 (d : Nat) (hI : rIn G l) (hk : rk G l p) (hp : p ≤ l.length) : mg_m (mg_KM scr t) (d + 6) 216 [.ref 148] G (mg_v (.int (b2 (k_kw l p))) G) := by
  have a1 := r213 (scr := scr) (t := t) d hI hk hp (a := 39) (by unfold k_ok; omega) (by decide)
  have a2 := r213 (scr := scr) (t := t) d hI hk hp (a := 40) (by unfold k_ok; omega) (by decide)
  have a3 := r213 (scr := scr) (t := t) d hI hk hp (a := 41) (by unfold k_ok; omega) (by decide)
  rw [show k_str 39 = w_all from by decide] at a1
  rw [show k_str 40 = w_some from by decide] at a2
  rw [show k_str 41 = w_if from by decide] at a3
  unfold k_kw
  refine mg_me [] 60 my_216 ms_216 (Nat.le_of_ble_eq_true rfl) ?_
  repeat (first | refine ⟨_, mg_Fs rfl rfl, ?_⟩ | refine ⟨Or.inl rfl, ?_⟩ | refine ⟨Or.inr ⟨_, rfl⟩, ?_⟩ | refine ⟨fun _ => ?_, fun h => absurd h (by decide)⟩ | refine ⟨fun h => absurd h (by decide), fun _ => ?_⟩)
  refine mg_cv (a1) (by omega) ?_
  cases k_wd l p w_all with
  | true => exact ⟨fun _ => ⟨Or.inr rfl, rfl, rfl, rfl⟩, fun h => absurd h (by decide)⟩
  | false =>
    refine ⟨fun h => absurd rfl h, fun _ => ?_⟩
    repeat (first | refine ⟨_, mg_Fs rfl rfl, ?_⟩ | refine ⟨Or.inl rfl, ?_⟩ | refine ⟨Or.inr ⟨_, rfl⟩, ?_⟩ | refine ⟨fun _ => ?_, fun h => absurd h (by decide)⟩ | refine ⟨fun h => absurd h (by decide), fun _ => ?_⟩)
    refine mg_cv (a2) (by omega) ?_
    cases k_wd l p w_some with
    | true => exact ⟨fun _ => ⟨Or.inr rfl, rfl, rfl, rfl⟩, fun h => absurd h (by decide)⟩
    | false =>
      refine ⟨fun h => absurd rfl h, fun _ => ?_⟩
      repeat (first | refine ⟨_, mg_Fs rfl rfl, ?_⟩ | refine ⟨Or.inl rfl, ?_⟩ | refine ⟨Or.inr ⟨_, rfl⟩, ?_⟩ | refine ⟨fun _ => ?_, fun h => absurd h (by decide)⟩ | refine ⟨fun h => absurd h (by decide), fun _ => ?_⟩)
      refine mg_cv (a3) (by omega) ?_
      cases k_wd l p w_if with
      | true => exact ⟨fun h => absurd h (by decide), fun _ => ⟨Or.inr rfl, rfl, rfl, rfl⟩⟩
      | false => exact ⟨fun _ => ⟨Or.inr rfl, rfl, rfl, rfl⟩, fun h => absurd rfl h⟩
theorem r217 (d : Nat) (hI : rIn G l) (hk : rk G l p) (hp : p ≤ l.length) : mg_m (mg_KM scr t) (d + 7) 217 [.ref 148] G (mg_v (.int (b2 (k_nm l p))) G) := by
  obtain ⟨k22, k23, k24, -⟩ := id hk
  have hK4 := k_K4 l p
  have a1 := r216 (scr := scr) (t := t) d hI hk hp
  unfold k_nm
  by_cases h1 : k_K l p = 1
  · rw [decide_eq_true h1, Bool.true_and]
    refine mg_me [] 60 my_217 ms_217 (Nat.le_of_ble_eq_true rfl) ?_
    refine ⟨_, mg_Fe k23 rfl rfl, fun h => absurd (by rw [h1]; rfl) h, fun _ => ?_⟩
    repeat (first | refine ⟨_, mg_Fs rfl rfl, ?_⟩ | refine ⟨Or.inl rfl, ?_⟩ | refine ⟨Or.inr ⟨_, rfl⟩, ?_⟩ | refine ⟨fun _ => ?_, fun h => absurd h (by decide)⟩ | refine ⟨fun h => absurd h (by decide), fun _ => ?_⟩)
    refine mg_cv (a1) (by omega) ?_
    cases k_kw l p with
    | true => exact ⟨fun _ => ⟨Or.inr rfl, rfl, rfl, rfl⟩, fun h => absurd h (by decide)⟩
    | false => exact ⟨fun h => absurd rfl h, fun _ => ⟨Or.inr rfl, rfl, rfl, rfl⟩⟩
  · rw [decide_eq_false h1, Bool.false_and]
    refine mg_me [] 60 my_217 ms_217 (Nat.le_of_ble_eq_true rfl) ?_
    exact ⟨_, mg_Fe k23 rfl rfl, fun _ => ⟨Or.inr rfl, rfl, rfl, rfl⟩, fun h => absurd ((mg_eqN (b := 1) (by omega) (by decide)).mp h) h1⟩
end RM
