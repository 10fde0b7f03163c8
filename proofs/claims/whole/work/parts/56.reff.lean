/-! REFERENCE: visit's two loops -/
theorem mg_nxt (q : Nat) (hq : q < 4096) : (Int32.ofNat q + Int32.ofInt 1) &&& (Int16.ofInt 4095).toInt32 = Int32.ofNat ((q + 1) % 4096) := by
  rw [mg_inc]
  apply Int32.toBitVec_inj.mp
  apply BitVec.eq_of_toNat_eq
  show (BitVec.ofNat 32 (q + 1) &&& 4095#32).toNat = (BitVec.ofNat 32 ((q + 1) % 4096)).toNat
  rw [BitVec.toNat_and, BitVec.toNat_ofNat, BitVec.toNat_ofNat, BitVec.toNat_ofNat, show 4095 % 2 ^ 32 = 2 ^ 12 - 1 by decide, Nat.and_two_pow_sub_one_eq_mod]
  omega
section RM
variable {scr : Nat × (Nat → Int32)} {t : List mg_S}
theorem r198_lv (d : Nat) {G : mg_G} {ord : Nat → Nat} {nv : Nat} (H : rH G ord nv) (a b c e : Int64) (l lev : Nat) (hlev : lev < nv) (hno : ∀ j, l ≤ j → j < lev → a_dp (a, b, c, e) (ord j) = false) (hyes : a_dp (a, b, c, e) (ord lev) = true) (x9 x10 x11 : Int32) {Q : mg_Q}
    (k : mg_wp (mg_KM scr t) mc_198 (d + 3) 199 [some (.ref 148), some (.long a), none, some (.long b), none, some (.long c), none, some (.long e), none, some (.int x9), some (.int x10), some (.int x11), some (.int (Int32.ofNat lev)), none] [] G Q) :
    ∀ (m j : Nat), j + m = lev → l ≤ j → mg_wp (mg_KM scr t) mc_198 (d + 3) 173 [some (.ref 148), some (.long a), none, some (.long b), none, some (.long c), none, some (.long e), none, some (.int x9), some (.int x10), some (.int x11), some (.int (Int32.ofNat j)), none] [] G Q := by
  have h8 := H.2.2
  intro m
  induction m with
  | zero =>
    intro j hj hl
    have ej : j = lev := by omega
    subst ej
    obtain ⟨e1, e2⟩ := H.2.1 j hlev
    have hp := r199 (scr := scr) (t := t) d (ord j) e2 a b c e G
    rw [← e1] at hp
    refine mg_go [173, 199] 20 173 ms_198 ?_
    refine ⟨_, mg_Fs rfl rfl, _, _, j, mg_Ai rfl (by decide), mg_ixN (by omega), by omega, ?_⟩
    refine ⟨Or.inr ⟨_, rfl⟩, mg_cv hp (by omega) ?_⟩
    rw [a_dep_m H.1 _ _ e2, hyes]
    exact ⟨fun _ => k, fun h => absurd h (by decide)⟩
  | succ m ih =>
    intro j hj hl
    obtain ⟨e1, e2⟩ := H.2.1 j (by omega)
    have hp := r199 (scr := scr) (t := t) d (ord j) e2 a b c e G
    rw [← e1] at hp
    refine mg_go [173, 199] 20 173 ms_198 ?_
    refine ⟨_, mg_Fs rfl rfl, _, _, j, mg_Ai rfl (by decide), mg_ixN (by omega), by omega, ?_⟩
    refine ⟨Or.inr ⟨_, rfl⟩, mg_cv hp (by omega) ?_⟩
    rw [a_dep_m H.1 _ _ e2, hno j hl (by omega)]
    refine ⟨fun h => absurd (show ((if false = true then 1 else 0 : Int32)) = 0 from rfl) h, fun _ => ?_⟩
    have := ih (j + 1) (by omega) (by omega)
    rw [← mg_inc j] at this
    exact this
theorem r198_sl (d : Nat) {G : mg_G} {ts : List a_T} {sl : Nat → Nat} (hT : ∀ i T, ts[i]? = some T → ((G.2.1 155 (4 * (i + 2)), G.2.1 155 (4 * (i + 2) + 1), G.2.1 155 (4 * (i + 2) + 2), G.2.1 155 (4 * (i + 2) + 3)) : a_T) = T) (hS : ∀ q, q < 4096 → G.1 160 q = Int32.ofNat (sl q)) (hH : a_hs 4096 2 a_slN ts sl) (hnd : ts.Nodup) (hlen : ts.length ≤ 998) (a b c e : Int64) (x9 : Int32)
    {e0 : Nat} (h0 : sl ((a_slN (a, b, c, e) + e0) % 4096) = 0) (hne : ∀ e2, e2 < e0 → sl ((a_slN (a, b, c, e) + e2) % 4096) ≠ 0) {Q : mg_Q}
    (kf : ∀ i, ts[i]? = some (a, b, c, e) → Q (.inl (some (.int (Int32.ofNat (i + 2))))) 0 G)
    (kn : (a, b, c, e) ∉ ts → mg_wp (mg_KM scr t) mc_198 (d + 1) 96 [some (.ref 148), some (.long a), none, some (.long b), none, some (.long c), none, some (.long e), none, some (.int x9), some (.int (Int32.ofNat ((a_slN (a, b, c, e) + e0) % 4096))), none, none, none] [] G Q) :
    ∀ (m e1 : Nat), e1 + m = e0 → (∀ e2, e2 < e1 → ∀ i, sl ((a_slN (a, b, c, e) + e2) % 4096) = 2 + i → ts[i]? ≠ some (a, b, c, e)) → mg_wp (mg_KM scr t) mc_198 (d + 1) 45 [some (.ref 148), some (.long a), none, some (.long b), none, some (.long c), none, some (.long e), none, some (.int x9), some (.int (Int32.ofNat ((a_slN (a, b, c, e) + e1) % 4096))), none, none, none] [] G Q := by
  intro m
  induction m with
  | zero =>
    intro e1 he hw
    have ej : e1 = e0 := by omega
    subst ej
    have hq : (a_slN (a, b, c, e) + e1) % 4096 < 4096 := Nat.mod_lt _ (by decide)
    refine mg_go [45, 96] 40 45 ms_198 ?_
    refine ⟨_, mg_Fs rfl rfl, _, _, (a_slN (a, b, c, e) + e1) % 4096, mg_Ai rfl (by decide), mg_ixN (by omega), hq, ?_⟩
    refine ⟨fun _ => kn (a_hs_not hH hnd h0 hw (by decide)), fun h => absurd ?_ h⟩
    rw [hS _ hq, h0]
    rfl
  | succ m ih =>
    intro e1 he hw
    have hq : (a_slN (a, b, c, e) + e1) % 4096 < 4096 := Nat.mod_lt _ (by decide)
    have hz := hne e1 (by omega)
    obtain ⟨i, U, hi, hi2⟩ := a_hs_at hH hq hz
    have hil : i < ts.length := (List.getElem?_eq_some_iff.mp hi).1
    have hv : G.1 160 ((a_slN (a, b, c, e) + e1) % 4096) = Int32.ofNat (i + 2) := by rw [hS _ hq, hi2, Nat.add_comm]
    have hp := r197 (scr := scr) (t := t) d (i + 2) (by omega) a b c e G
    rw [hT i U hi, ← hv] at hp
    refine mg_go [45, 96] 40 45 ms_198 ?_
    refine ⟨_, mg_Fs rfl rfl, _, _, (a_slN (a, b, c, e) + e1) % 4096, mg_Ai rfl (by decide), mg_ixN (by omega), hq, ?_⟩
    refine ⟨fun h => ?_, fun _ => ?_⟩
    · exfalso
      have h : G.1 160 ((a_slN (a, b, c, e) + e1) % 4096) = Int32.ofNat 0 := h
      rw [hv] at h
      have := (mg_eqN (by omega) (by omega)).mp h
      omega
    refine ⟨_, mg_Fs rfl rfl, _, _, (a_slN (a, b, c, e) + e1) % 4096, mg_Ai rfl (by decide), mg_ixN (by omega), hq, ?_⟩
    refine ⟨Or.inr ⟨_, rfl⟩, mg_cv hp (by omega) ?_⟩
    by_cases hU : U = (a, b, c, e)
    · rw [if_pos hU]
      refine ⟨fun h => absurd h (by decide), fun _ => ?_⟩
      refine ⟨_, mg_Fs rfl rfl, _, _, (a_slN (a, b, c, e) + e1) % 4096, mg_Ai rfl (by decide), mg_ixN (by omega), hq, ?_⟩
      refine ⟨Or.inl rfl, ?_⟩
      rw [hv]
      exact kf i (by rw [hi, hU])
    · rw [if_neg hU]
      refine ⟨fun _ => ?_, fun h => absurd rfl h⟩
      have := ih (e1 + 1) (by omega) (fun e2 h2 i2 h3 h4 => by
        rcases Nat.lt_or_eq_of_le (Nat.le_of_lt_succ h2) with h5 | rfl
        · exact hw e2 h5 i2 h3 h4
        · have : i2 = i := by omega
          subst this
          rw [hi] at h4
          exact hU (Option.some.inj h4))
      rw [show (a_slN (a, b, c, e) + (e1 + 1)) % 4096 = ((a_slN (a, b, c, e) + e1) % 4096 + 1) % 4096 by omega, ← mg_nxt _ hq] at this
      exact this
end RM
