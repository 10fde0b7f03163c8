theorem a_sx_128 : ∀ c, c < 128 → a_sx c = Int32.ofNat c := by decide +kernel
theorem a_sx_neg : ∀ c, c < 256 → 128 ≤ c → a_sx c < 0 := by decide +kernel
theorem a_sx_eq {c w : Nat} (hc : c < 256) (hw : w < 128) : a_sx c = Int32.ofNat w ↔ c = w := by
  by_cases h : c < 128
  · rw [a_sx_128 c h]
    exact mg_eqN (by omega) (by omega)
  · refine ⟨fun q => ?_, fun q => absurd hw (by omega)⟩
    have := a_sx_neg c hc (by omega)
    rw [q] at this
    exact absurd this (mg_nl0 (by omega))
section KC
variable {scr : Nat × (Nat → Int32)} {t : List mg_S} {G : mg_G} {l : List Nat} {p : Nat}
theorem c94 (d : Nat) (hI : cIn G l) (hk : ck G l p) {c : Nat} (hc : c < 128) : mg_m (mg_KC scr t) (d + 1) 94 [.ref 12, .int (Int32.ofNat c)] G (mg_v (.int (b2 (k_is l p c))) G) := by
  obtain ⟨k2, k3, k4, -, -, k6⟩ := hk
  have hK4 := k_K4 l p
  by_cases h3 : k_K l p = 3
  · have hlt : k_S l p < l.length := by
      unfold k_K at h3
      split at h3
      · split at h3 <;> cases h3
      · split at h3
        · split at h3 <;> cases h3
        · split at h3
          · assumption
          · cases h3
    have hb := List.getElem?_eq_getElem hlt
    obtain ⟨-, b2'⟩ := hI.2.2 _ _ hb
    refine mg_me [] 60 my_94 ms_94 (Nat.le_of_ble_eq_true rfl) ?_
    refine ⟨_, mg_Fe k3 rfl rfl, fun h => absurd (by rw [h3]; rfl) h, fun _ => ?_⟩
    refine ⟨_, mg_Fe (k6 h3 _ hb) rfl rfl, fun h => ⟨Or.inr rfl, ?_, rfl, rfl⟩, fun h => ⟨Or.inr rfl, ?_, rfl, rfl⟩⟩
    · rw [show k_is l p c = false from decide_eq_false (fun q => h (by
        have := q.2
        rw [hb] at this
        rw [Option.some.inj this, a_sx_128 c hc]))]
      rfl
    · have h := (a_sx_eq b2' hc).mp h
      rw [show k_is l p c = true from decide_eq_true ⟨h3, by rw [hb, h]⟩]
      rfl
  · refine mg_me [] 60 my_94 ms_94 (Nat.le_of_ble_eq_true rfl) ?_
    refine ⟨_, mg_Fe k3 rfl rfl, fun _ => ⟨Or.inr rfl, ?_, rfl, rfl⟩, fun h => absurd ((mg_eqN (b := 3) (by omega) (by decide)).mp h) h3⟩
    rw [show k_is l p c = false from decide_eq_false (fun q => h3 q.1)]
    rfl
theorem c95 (d : Nat) (hI : cIn G l) (hk : ck G l p) (hp : p ≤ l.length) : mg_m (mg_KC scr t) (d + 1) 95 [.ref 12] G (mg_v (.int (b2 (k_bit l p))) G) := by
  obtain ⟨k2, k3, k4, -, k5, -⟩ := hk
  have hl600 := hI.2.1
  have hK4 := k_K4 l p
  have hEle := k_E_le hp
  have hSE := k_E_ge l p
  have no : ¬ (k_K l p = 2 ∧ k_E l p = k_S l p + 1 ∧ k_N l p ≤ 1) → k_bit l p = false := fun h => decide_eq_false h
  by_cases h2 : k_K l p = 2
  · have hN : k_N l p < 1000 := by
      have h3 := h2
      unfold k_K at h3
      split at h3
      · split at h3 <;> cases h3
      · split at h3
        · rename_i hb
          split at h3
          · rename_i hb3
            have hlen : ((l.drop (k_S l p)).take (k_b l p)).length = k_b l p := k_run_len (k_S_le hp) (Nat.le_refl _)
            have := k_num_lt ((l.drop (k_S l p)).take (k_b l p)) (fun c hc => by
              have := k_run_P (P := kDg) (Nat.le_refl _) c hc
              rw [Bool.and_eq_true, decide_eq_true_eq, decide_eq_true_eq] at this
              exact this.2)
            rw [hlen] at this
            exact Nat.lt_of_lt_of_le this (Nat.pow_le_pow_right (by decide) hb3)
          · cases h3
        · split at h3 <;> cases h3
    refine mg_me [] 60 my_95 ms_95 (Nat.le_of_ble_eq_true rfl) ?_
    refine ⟨_, mg_Fe k3 rfl rfl, fun h => absurd (by rw [h2]; rfl) h, fun _ => ?_⟩
    refine ⟨_, mg_Fe k2 rfl rfl, _, mg_Fe k4 rfl rfl, fun h => ?_, fun h => ?_⟩
    · have h : ¬ Int32.ofNat (k_E l p) - Int32.ofNat (k_S l p) = Int32.ofInt 1 := h
      rw [sub_ofN hSE] at h
      refine ⟨Or.inr rfl, ?_, rfl, rfl⟩
      rw [no (fun q => h (by rw [q.2.1, Nat.add_sub_cancel_left]; rfl))]
      rfl
    · have h : Int32.ofNat (k_E l p) - Int32.ofNat (k_S l p) = Int32.ofInt 1 := h
      rw [sub_ofN hSE] at h
      have h := (mg_eqN (b := 1) (by omega) (by decide)).mp h
      refine ⟨_, mg_Fe (k5 h2) rfl rfl, fun h1 => ⟨Or.inr rfl, ?_, rfl, rfl⟩, fun h1 => ⟨Or.inr rfl, ?_, rfl, rfl⟩⟩
      · have h1 := (mg_ltN (a := 1) (by decide) (by omega)).mp h1
        rw [no (fun q => absurd q.2.2 (by omega))]
        rfl
      · have h1 := (mg_leN (b := 1) (by omega) (by decide)).mp h1
        rw [show k_bit l p = true from decide_eq_true ⟨h2, by omega, h1⟩]
        rfl
  · refine mg_me [] 60 my_95 ms_95 (Nat.le_of_ble_eq_true rfl) ?_
    refine ⟨_, mg_Fe k3 rfl rfl, fun _ => ⟨Or.inr rfl, ?_, rfl, rfl⟩, fun h => absurd ((mg_eqN (b := 2) (by omega) (by decide)).mp h) h2⟩
    rw [no (fun q => h2 q.1)]
    rfl
theorem k_wd_pk (hp : p ≤ l.length) (h1 : k_K l p = 1) {w : List Nat} (hw : a_nm7 w) : (a_pk (k_W l p) = a_pk w ↔ k_wd l p w = true) := by
  rw [a_pk_inj (k_W_nm hp h1).1 hw]
  unfold k_wd
  rw [decide_eq_true_eq]
  exact ⟨fun h => ⟨h1, h⟩, fun h => h.2⟩
theorem c97 (d : Nat) (hk : ck G l p) (hp : p ≤ l.length) {w : List Nat} (hw : a_nm7 w) : mg_m (mg_KC scr t) (d + 1) 97 [.ref 12, .long (a_pk w)] G (mg_v (.int (b2 (k_wd l p w))) G) := by
  obtain ⟨k2, k3, k4, k7, -, -⟩ := hk
  have hK4 := k_K4 l p
  by_cases h1 : k_K l p = 1
  · have e := k_wd_pk hp h1 hw
    refine mg_me [] 60 my_97 ms_97 (Nat.le_of_ble_eq_true rfl) ?_
    refine ⟨_, mg_Fe k3 rfl rfl, fun h => absurd (by rw [h1]; rfl) h, fun _ => ?_⟩
    refine ⟨_, mg_Fe (k7 h1) rfl rfl, fun h => ⟨Or.inr rfl, ?_, rfl, rfl⟩, fun h => ⟨Or.inr rfl, ?_, rfl, rfl⟩⟩
    · rw [show k_wd l p w = false from Bool.eq_false_iff.mpr (fun q => h ((lg_cmp_eq _ _).mpr (e.mpr q)))]
      rfl
    · rw [e.mp ((lg_cmp_eq _ _).mp h)]
      rfl
  · refine mg_me [] 60 my_97 ms_97 (Nat.le_of_ble_eq_true rfl) ?_
    refine ⟨_, mg_Fe k3 rfl rfl, fun _ => ⟨Or.inr rfl, ?_, rfl, rfl⟩, fun h => absurd ((mg_eqN (b := 1) (by omega) (by decide)).mp h) h1⟩
    rw [show k_wd l p w = false from decide_eq_false (fun q => h1 q.1)]
    rfl
theorem n7_if : a_nm7 w_if := ⟨(show ∀ c ∈ _, 97 ≤ c ∧ c ≤ 122 from by decide), by decide⟩
theorem n7_all : a_nm7 w_all := ⟨(show ∀ c ∈ _, 97 ≤ c ∧ c ≤ 122 from by decide), by decide⟩
theorem n7_some : a_nm7 w_some := ⟨(show ∀ c ∈ _, 97 ≤ c ∧ c ≤ 122 from by decide), by decide⟩
theorem c98 (d : Nat) (hk : ck G l p) (hp : p ≤ l.length) : mg_m (mg_KC scr t) (d + 1) 98 [.ref 12] G (mg_v (.int (b2 (k_nm l p))) G) := by
  obtain ⟨k2, k3, k4, k7, -, -⟩ := hk
  have hK4 := k_K4 l p
  unfold k_nm k_kw
  by_cases h1 : k_K l p = 1
  · have e1 := k_wd_pk hp h1 n7_if
    have e2 := k_wd_pk hp h1 n7_all
    have e3 := k_wd_pk hp h1 n7_some
    rw [decide_eq_true h1, Bool.true_and]
    refine mg_me [] 60 my_98 ms_98 (Nat.le_of_ble_eq_true rfl) ?_
    refine ⟨_, mg_Fe k3 rfl rfl, fun h => absurd (by rw [h1]; rfl) h, fun _ => ?_⟩
    have c1 : ∀ x : Bool, k_wd l p w_all = true → (Sum.inl (some (Value.int (Int32.ofInt 0))) : Option Value ⊕ String) = Sum.inl (some (Value.int (b2 (!(k_wd l p w_all || x))))) := fun x h => by rw [h]; rfl
    refine ⟨_, mg_Fe (k7 h1) rfl rfl, fun h => ⟨Or.inr rfl, c1 _ (e2.mp ((lg_cmp_eq _ _).mp h)), rfl, rfl⟩, fun h => ?_⟩
    have n1 : k_wd l p w_all = false := Bool.eq_false_iff.mpr (fun q => h ((lg_cmp_eq _ _).mpr (e2.mpr q)))
    rw [n1, Bool.false_or]
    have c2 : ∀ x : Bool, k_wd l p w_some = true → (Sum.inl (some (Value.int (Int32.ofInt 0))) : Option Value ⊕ String) = Sum.inl (some (Value.int (b2 (!(k_wd l p w_some || x))))) := fun x h => by rw [h]; rfl
    refine ⟨_, mg_Fe (k7 h1) rfl rfl, fun h => ⟨Or.inr rfl, c2 _ (e3.mp ((lg_cmp_eq _ _).mp h)), rfl, rfl⟩, fun h => ?_⟩
    have n2 : k_wd l p w_some = false := Bool.eq_false_iff.mpr (fun q => h ((lg_cmp_eq _ _).mpr (e3.mpr q)))
    rw [n2, Bool.false_or]
    refine ⟨_, mg_Fe (k7 h1) rfl rfl, fun h => ⟨Or.inr rfl, ?_, rfl, rfl⟩, fun h => ⟨Or.inr rfl, ?_, rfl, rfl⟩⟩
    · rw [e1.mp ((lg_cmp_eq _ _).mp h)]
      rfl
    · rw [show k_wd l p w_if = false from Bool.eq_false_iff.mpr (fun q => h ((lg_cmp_eq _ _).mpr (e1.mpr q)))]
      rfl
  · rw [decide_eq_false h1, Bool.false_and]
    refine mg_me [] 60 my_98 ms_98 (Nat.le_of_ble_eq_true rfl) ?_
    exact ⟨_, mg_Fe k3 rfl rfl, fun _ => ⟨Or.inr rfl, rfl, rfl, rfl⟩, fun h => absurd ((mg_eqN (b := 1) (by omega) (by decide)).mp h) h1⟩
theorem c96 (d : Nat) (hI : cIn G l) (hB : ckB G l) (hk : ck G l p) (hp : p ≤ l.length) {a : Nat} (ha : k_ok a) (h37 : a ≠ 37) : mg_m (mg_KC scr t) (d + 5) 96 [.ref 12, .ref (2000000 + a)] G (mg_v (.int (b2 (k_wd l p (k_str a)))) G) := by
  obtain ⟨k2, k3, k4, -, -, -⟩ := hk
  have hl600 := hI.2.1
  have hK4 := k_K4 l p
  have hEle := k_E_le hp
  have hSE := k_E_ge l p
  have ha7 := k_str_l a ha h37
  have jl : mg_m (mg_KC scr t) (d + 2) 331 [.ref (2000000 + a)] G (mg_v (.int (Int32.ofNat (k_str a).length)) G) := j331 d ha
  have no : ¬ (k_K l p = 1 ∧ k_W l p = k_str a) → k_wd l p (k_str a) = false := fun h => decide_eq_false h
  by_cases h1 : k_K l p = 1
  · obtain ⟨n1, n2, n3⟩ := k_W_nm hp h1
    have n7 := n1.2
    have eS : Int32.ofNat (k_E l p) - Int32.ofNat (k_S l p) = Int32.ofNat (k_W l p).length := by rw [sub_ofN hSE, n3, Nat.add_sub_cancel_left]
    refine mg_me [28] 60 my_96 ms_96 (Nat.le_of_ble_eq_true rfl) ?_
    refine ⟨_, mg_Fe k3 rfl rfl, fun h => absurd (by rw [h1]; rfl) h, fun _ => ?_⟩
    refine ⟨_, mg_Fe k2 rfl rfl, _, mg_Fe k4 rfl rfl, Or.inr (jr ha _), mg_cv jl (by omega) ?_⟩
    refine ⟨fun h => ?_, fun h => ?_⟩
    · have h : Int32.ofNat (k_E l p) - Int32.ofNat (k_S l p) = Int32.ofNat (k_str a).length := h
      rw [eS] at h
      have hlen := (mg_eqN (by omega) (by omega)).mp h
      refine mg_loop (k_str a).length (fun k L G' => L = [some (.ref 12), some (.ref (2000000 + a)), some (.int (Int32.ofNat k))] ∧ G' = G ∧ ∀ j, j < k → (k_W l p)[j]? = (k_str a)[j]?) ?_ ?_ _ _ ⟨rfl, rfl, fun j hj => absurd hj (Nat.not_lt_zero j)⟩
      · rintro k L G' hkk ⟨rfl, rfl, hj⟩ ih
        obtain ⟨c, hc, hw, hc2, hc3⟩ := k_W_at hp h1 (i := k) (by omega)
        obtain ⟨e1, e2⟩ := k_str_c a ha k hkk
        have jc : mg_m (mg_KC scr t) (d + 4) 332 [.ref (2000000 + a), .int (Int32.ofNat k)] G' (mg_v (.int (Int32.ofNat ((k_str a).getD k 0))) G') := j332 d ha hkk
        refine mg_go [28] 60 28 ms_96 ?_
        refine ⟨Or.inr (jr ha _), mg_cv jl (by omega) ?_⟩
        refine ⟨fun h => absurd h (mg_nle hkk (by omega)), fun _ => ?_⟩
        refine ⟨_, mg_Fe hB.1 rfl rfl, _, mg_Fe k4 rfl rfl, 2, 600, _, k_S l p + k, mg_Ab rfl (by decide), Or.inl rfl, mg_ixE (Int32.ofNat_add _ _).symm (by omega), by omega, ?_⟩
        rw [(hI.2.2 _ _ hc).1, a_sx_128 c (by omega)]
        refine ⟨Or.inr (jr ha _), mg_cv jc (by omega) ?_⟩
        refine ⟨fun h => ?_, fun h => ?_⟩
        · have h := (mg_eqN (by omega) (by omega)).mp h
          refine ih _ _ ⟨by rw [mg_inc k] <;> rfl, rfl, fun j hjk => ?_⟩
          by_cases e : j = k
          · subst e
            rw [hw, e1, h]
          · exact hj j (by omega)
        · have hne : ¬ c = (k_str a).getD k 0 := fun q => h (by rw [q])
          refine ⟨Or.inr rfl, ?_, rfl, rfl⟩
          rw [no (fun q => hne (by
            have := q.2
            rw [this, e1] at hw
            exact (Option.some.inj hw).symm))]
          rfl
      · rintro L G' ⟨rfl, rfl, hj⟩
        have hall : k_W l p = k_str a := List.ext_getElem? fun i => by
          by_cases hi : i < (k_str a).length
          · exact hj i hi
          · rw [List.getElem?_eq_none (by omega), List.getElem?_eq_none (by omega)]
        refine mg_go [] 60 28 ms_96 ?_
        refine ⟨Or.inr (jr ha _), mg_cv jl (by omega) ?_⟩
        refine ⟨fun _ => ⟨Or.inr rfl, ?_, rfl, rfl⟩, fun h => absurd h (Int32.not_lt.mpr (Int32.le_refl _))⟩
        rw [show k_wd l p (k_str a) = true from decide_eq_true ⟨h1, hall⟩]
        rfl
    · have h : ¬ Int32.ofNat (k_E l p) - Int32.ofNat (k_S l p) = Int32.ofNat (k_str a).length := h
      rw [eS] at h
      refine ⟨Or.inr rfl, ?_, rfl, rfl⟩
      rw [no (fun q => h (by rw [q.2]))]
      rfl
  · refine mg_me [28] 60 my_96 ms_96 (Nat.le_of_ble_eq_true rfl) ?_
    refine ⟨_, mg_Fe k3 rfl rfl, fun _ => ⟨Or.inr rfl, ?_, rfl, rfl⟩, fun h => ?_⟩
    · rw [no (fun q => h1 q.1)]
      rfl
    · exact absurd ((mg_eqN (b := 1) (by omega) (by decide)).mp h) h1
end KC
