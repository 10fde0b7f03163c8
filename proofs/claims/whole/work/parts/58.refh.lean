/-! REFERENCE: visit, whole -/
theorem mg_sI_at (G : mg_G) (a k : Nat) (x : Int32) (b j : Nat) : (mg_sI G a k x).1 b j = if b = a ∧ j = k then x else G.1 b j := mg_u2_at G.1 a k x b j
theorem mg_sI_eq (G : mg_G) (a k : Nat) (x : Int32) : (mg_sI G a k x).1 a k = x := by rw [mg_sI_at, if_pos ⟨rfl, rfl⟩]
theorem mg_sI_ne (G : mg_G) (a k : Nat) (x : Int32) {j : Nat} (h : j ≠ k) : (mg_sI G a k x).1 a j = G.1 a j := by rw [mg_sI_at, if_neg (fun q => h q.2)]
theorem mg_s0 (s : Nat) (h : s < 4096) : (s + 0) % 4096 = s := by omega
theorem mg_4N (N w : Nat) : Int32.ofInt 4 * Int32.ofNat N + Int32.ofNat w = Int32.ofNat (4 * N + w) := by rw [Int32.ofNat_add, Int32.ofNat_mul]; rfl
section RM
variable {scr : Nat × (Nat → Int32)} {t : List mg_S}
theorem r198_z (D N lev v : Nat) (hN : N < 1000) (hlev : lev < 8) (hv : v < 8) (a b c e : Int64) (x9 x10 : Int32) (G1 : mg_G) (ek : G1.1 161 lev = Int32.ofNat v) {Q Q1 : mg_Q}
    (ih1 : mg_m (mg_KM scr t) (D + 2) 198 [.ref 148, .long (a_left (G1.2.1 154) (a, b, c, e) (Int32.ofNat v) 0 0), .long (a_left (G1.2.1 154) (a, b, c, e) (Int32.ofNat v) 0 1), .long (a_left (G1.2.1 154) (a, b, c, e) (Int32.ofNat v) 0 2), .long (a_left (G1.2.1 154) (a, b, c, e) (Int32.ofNat v) 0 3), .int (Int32.ofNat lev + Int32.ofInt 1)] (mg_sI G1 156 N (Int32.ofNat v)) Q1)
    (h2 : ∀ o k G3, Q1 o k G3 → k = 0 ∧ ∃ r1, o = .inl (some (.int (Int32.ofNat r1))) ∧ mg_m (mg_KM scr t) (D + 2) 198 [.ref 148, .long (a_left (G3.2.1 154) (a, b, c, e) (Int32.ofNat v) 1 0), .long (a_left (G3.2.1 154) (a, b, c, e) (Int32.ofNat v) 1 1), .long (a_left (G3.2.1 154) (a, b, c, e) (Int32.ofNat v) 1 2), .long (a_left (G3.2.1 154) (a, b, c, e) (Int32.ofNat v) 1 3), .int (Int32.ofNat lev + Int32.ofInt 1)] (mg_sI G3 157 N (Int32.ofNat r1))
      (fun o k G5 => k = 0 ∧ ∃ r2, o = .inl (some (.int (Int32.ofNat r2))) ∧ Q (.inl (some (.int (Int32.ofNat N)))) 0 (mg_sI G5 158 N (Int32.ofNat r2)))) :
    mg_wp (mg_KM scr t) mc_198 (D + 2) 199 [some (.ref 148), some (.long a), none, some (.long b), none, some (.long c), none, some (.long e), none, some (.int x9), some (.int x10), some (.int (Int32.ofNat N)), some (.int (Int32.ofNat lev)), none] [] G1 Q := by
  have h8 := mg_v8 v hv
  refine mg_go [] 150 199 ms_198 ?_
  refine ⟨_, mg_Fs rfl rfl, _, _, lev, mg_Ai rfl (by decide), mg_ixN (by omega), hlev, ?_⟩
  rw [ek]
  refine ⟨_, mg_Fs rfl rfl, 1000, N, rfl, mg_ixN (by omega), hN, ?_⟩
  refine ⟨_, mg_Fs rfl rfl, ?_⟩
  refine ⟨Or.inr ⟨_, rfl⟩, mg_cv (r188 D a b c e (Int32.ofNat v) 0 0 h8 (mg_sI G1 156 N (Int32.ofNat v))) (Nat.le_refl _) ?_⟩
  refine ⟨Or.inr ⟨_, rfl⟩, mg_cv (r188 D a b c e (Int32.ofNat v) 0 1 h8 (mg_sI G1 156 N (Int32.ofNat v))) (Nat.le_refl _) ?_⟩
  refine ⟨Or.inr ⟨_, rfl⟩, mg_cv (r188 D a b c e (Int32.ofNat v) 0 2 h8 (mg_sI G1 156 N (Int32.ofNat v))) (Nat.le_refl _) ?_⟩
  refine ⟨Or.inr ⟨_, rfl⟩, mg_cv (r188 D a b c e (Int32.ofNat v) 0 3 h8 (mg_sI G1 156 N (Int32.ofNat v))) (Nat.le_refl _) ?_⟩
  refine ⟨Or.inr ⟨_, rfl⟩, mg_m_mono ih1 (Nat.le_refl _) ?_⟩
  intro o k G3 hq
  obtain ⟨rfl, r1, rfl, hm⟩ := h2 o k G3 hq
  refine ⟨1000, N, rfl, mg_ixN (by omega), hN, ?_⟩
  refine ⟨_, mg_Fs rfl rfl, ?_⟩
  refine ⟨Or.inr ⟨_, rfl⟩, mg_cv (r188 D a b c e (Int32.ofNat v) 1 0 h8 (mg_sI G3 157 N (Int32.ofNat r1))) (Nat.le_refl _) ?_⟩
  refine ⟨Or.inr ⟨_, rfl⟩, mg_cv (r188 D a b c e (Int32.ofNat v) 1 1 h8 (mg_sI G3 157 N (Int32.ofNat r1))) (Nat.le_refl _) ?_⟩
  refine ⟨Or.inr ⟨_, rfl⟩, mg_cv (r188 D a b c e (Int32.ofNat v) 1 2 h8 (mg_sI G3 157 N (Int32.ofNat r1))) (Nat.le_refl _) ?_⟩
  refine ⟨Or.inr ⟨_, rfl⟩, mg_cv (r188 D a b c e (Int32.ofNat v) 1 3 h8 (mg_sI G3 157 N (Int32.ofNat r1))) (Nat.le_refl _) ?_⟩
  refine ⟨Or.inr ⟨_, rfl⟩, mg_m_mono hm (Nat.le_refl _) ?_⟩
  rintro o k G5 ⟨rfl, r2, rfl, hq5⟩
  refine ⟨1000, N, rfl, mg_ixN (by omega), hN, ?_⟩
  exact ⟨Or.inl rfl, hq5⟩
theorem r198_y (D N q : Nat) (hN : N < 1000) (hq : q < 4096) (a b c e : Int64) (l : Int32) (G : mg_G) (hn : G.2.2.2.2 148 16 = .int (Int32.ofNat N)) {Q : mg_Q}
    (k : mg_wp (mg_KM scr t) mc_198 D 173 [some (.ref 148), some (.long a), none, some (.long b), none, some (.long c), none, some (.long e), none, some (.int l), some (.int (Int32.ofNat q)), some (.int (Int32.ofNat N)), some (.int l), none] [] (rG1 G q N (a, b, c, e)) Q) :
    mg_wp (mg_KM scr t) mc_198 D 96 [some (.ref 148), some (.long a), none, some (.long b), none, some (.long c), none, some (.long e), none, some (.int l), some (.int (Int32.ofNat q)), none, none, none] [] G Q := by
  refine mg_go [173] 60 96 ms_198 ?_
  refine ⟨_, mg_Fe hn rfl rfl, _, mg_Fs rfl rfl, 4096, q, rfl, mg_ixN (by omega), hq, ?_⟩
  refine ⟨_, mg_Fe hn rfl rfl, rfl, _, rfl, rfl, ?_⟩
  refine ⟨_, mg_Fs rfl rfl, 4000, 4 * N, rfl, mg_ixE (by rw [Int32.ofNat_mul]; rfl) (by omega), by omega, ?_⟩
  refine ⟨_, mg_Fs rfl rfl, 4000, 4 * N + 1, rfl, mg_ixE (mg_4N N 1) (by omega), by omega, ?_⟩
  refine ⟨_, mg_Fs rfl rfl, 4000, 4 * N + 2, rfl, mg_ixE (mg_4N N 2) (by omega), by omega, ?_⟩
  refine ⟨_, mg_Fs rfl rfl, 4000, 4 * N + 3, rfl, mg_ixE (mg_4N N 3) (by omega), by omega, ?_⟩
  exact k
def rV (ord : Nat → Nat) (nv : Nat) (T : a_T) (ts ts' : List a_T) (G : mg_G) : mg_Q := fun o k G' => k = 0 ∧ ∃ r, o = .inl (some (.int (Int32.ofNat r))) ∧ a_nd ts' r T ∧ rN G' ts' ∧ rFr (ts.length + 2) G G' ∧ ∀ i, ts.length ≤ i → i < ts'.length → rC G' ord nv ts' i
set_option maxHeartbeats 2000000 in
theorem r198 (ord : Nat → Nat) (nv : Nat) : ∀ (n d : Nat) (T : a_T) (l : Nat) (G : mg_G) (ts : List a_T), rH G ord nv → rN G ts → ts.Nodup → nv < l + n → l ≤ nv → (∀ j, j < l → a_dp T (ord j) = false) → (∀ v, v < 8 → a_dp T v = true → ∃ j, j < nv ∧ ord j = v) → (a_vis ord nv n T ts).length ≤ 998 →
    mg_m (mg_KM scr t) (d + n + 4) 198 [.ref 148, .long T.1, .long T.2.1, .long T.2.2.1, .long T.2.2.2, .int (Int32.ofNat l)] G (rV ord nv T ts (a_vis ord nv n T ts) G)
  | 0, d, T, l, G, ts, _, _, _, hf, hl, _, _, _ => by omega
  | n + 1, d, (a, b, c, e), l, G, ts, hH, hN, hnd, hf, hl, hlo, hsup, hlen => by
    have hnv := hH.2.2
    refine mg_me [45] 60 my_198 ms_198 (Nat.le_of_ble_eq_true rfl) ?_
    refine ⟨fun hz => ?_, fun hz => ?_⟩
    case refine_2 =>
      have hz : (a, b, c, e) = a_zero := (a_or0 (a, b, c, e)).mp ((lg_cmp_eq _ _).mp hz)
      have ev : a_vis ord nv (n + 1) (a, b, c, e) ts = ts := by unfold a_vis; rw [if_pos (Or.inl hz)]
      rw [ev]
      exact ⟨Or.inl rfl, rfl, 0, rfl, Or.inl ⟨rfl, hz⟩, hN, rFr.rf _ _, fun i h1 h2 => by omega⟩
    refine ⟨fun ho => ?_, fun ho => ?_⟩
    case refine_2 =>
      have ho : (a, b, c, e) = a_one := (a_and1 (a, b, c, e)).mp ((lg_cmp_eq _ _).mp ho)
      have ev : a_vis ord nv (n + 1) (a, b, c, e) ts = ts := by unfold a_vis; rw [if_pos (Or.inr (Or.inl ho))]
      rw [ev]
      exact ⟨Or.inl rfl, rfl, 1, rfl, Or.inr (Or.inl ⟨rfl, ho⟩), hN, rFr.rf _ _, fun i h1 h2 => by omega⟩
    have hz2 : ¬ (a, b, c, e) = a_zero := fun q => hz ((lg_cmp_eq _ _).mpr ((a_or0 (a, b, c, e)).mpr q))
    have ho2 : ¬ (a, b, c, e) = a_one := fun q => ho ((lg_cmp_eq _ _).mpr ((a_and1 (a, b, c, e)).mpr q))
    obtain ⟨hNn, hNt, sl, hS, hHs⟩ := hN
    obtain ⟨s9, hs9⟩ := a_vis_pre ord nv (n + 1) (a, b, c, e) ts
    have hlts : ts.length ≤ 998 := by rw [hs9, List.length_append] at hlen; omega
    obtain ⟨e0, he0, h0, hne⟩ := a_hs_free hHs (by omega) (a_slN (a, b, c, e))
    refine ⟨Or.inl rfl, mg_cv (r196 0 a b c e G) (by omega) ?_⟩
    have key := r198_sl (scr := scr) (t := t) (d + n + 3) hNt hS hHs hnd hlts a b c e (Int32.ofNat l) h0 hne (Q := rV ord nv (a, b, c, e) ts (a_vis ord nv (n + 1) (a, b, c, e) ts) G) ?kf ?kn e0 0 (by omega) (fun e2 h2 => by omega)
    case kf =>
      intro i hi
      have ev : a_vis ord nv (n + 1) (a, b, c, e) ts = ts := by unfold a_vis; rw [if_pos (Or.inr (Or.inr (List.mem_of_getElem? hi)))]
      rw [ev]
      exact ⟨rfl, i + 2, rfl, Or.inr (Or.inr ⟨by omega, hi⟩), ⟨hNn, hNt, sl, hS, hHs⟩, rFr.rf _ _, fun i h1 h2 => by omega⟩
    · rw [mg_s0 _ (a_slN_lt _)] at key
      exact key
    case kn =>
      intro hni
      have ev : a_vis ord nv (n + 1) (a, b, c, e) ts = a_vis ord nv n (a_cf (a, b, c, e) (ord (a_lev ord (a, b, c, e) 0 nv)) true) (a_vis ord nv n (a_cf (a, b, c, e) (ord (a_lev ord (a, b, c, e) 0 nv)) false) (ts ++ [(a, b, c, e)])) := by
        conv => lhs; unfold a_vis
        rw [if_neg (fun q => q.elim hz2 (fun q => q.elim ho2 hni))]
      have hlevle := a_lev_le ord (a, b, c, e) nv 0
      have hlevno := a_lev_no ord (a, b, c, e) nv 0
      have hlevyes := a_lev_yes ord (a, b, c, e) nv 0
      generalize hlv : a_lev ord (a, b, c, e) 0 nv = lev at ev hlevle hlevno hlevyes
      have hlev : lev < nv := by
        refine Decidable.byContradiction fun hge => ?_
        refine (a_const (T := (a, b, c, e)) fun v hv => ?_).elim hz2 ho2
        cases hd : a_dp (a, b, c, e) v with
        | false => rfl
        | true =>
          obtain ⟨j, hj, rfl⟩ := hsup v hv hd
          rw [hlevno j (Nat.zero_le _) (by omega)] at hd
          cases hd
      have hyes := hlevyes (by omega)
      have hll : l ≤ lev := Nat.le_of_not_lt fun hlt => by
        rw [hlo lev hlt] at hyes
        cases hyes
      obtain ⟨ev1, hv8⟩ := hH.2.1 lev hlev
      generalize hvv : ord lev = v at ev hyes hv8
      obtain ⟨s2, hs2⟩ := a_vis_pre ord nv n (a_cf (a, b, c, e) v false) (ts ++ [(a, b, c, e)])
      obtain ⟨s3, hs3⟩ := a_vis_pre ord nv n (a_cf (a, b, c, e) v true) (a_vis ord nv n (a_cf (a, b, c, e) v false) (ts ++ [(a, b, c, e)]))
      have hndA := a_nodup1 hnd hni
      have hndB := a_vis_nd ord nv n (a_cf (a, b, c, e) v false) _ hndA
      rw [ev] at hlen ⊢
      generalize htB : a_vis ord nv n (a_cf (a, b, c, e) v false) (ts ++ [(a, b, c, e)]) = tB at hs2 hs3 hndB hlen ⊢
      generalize htC : a_vis ord nv n (a_cf (a, b, c, e) v true) tB = tC at hs3 hlen ⊢
      have hlB : tB.length ≤ 998 := by rw [hs3, List.length_append] at hlen; omega
      have hlA : ts.length + 1 ≤ tB.length := by rw [hs2, List.length_append, List.length_append, List.length_singleton]; omega
      have hcl : ∀ x j, j < lev + 1 → a_dp (a_cf (a, b, c, e) v x) (ord j) = false := by
        intro x j hj
        rcases Nat.lt_or_eq_of_le (Nat.le_of_lt_succ hj) with h9 | rfl
        · exact a_cf_dp hv8 (hH.2.1 j (by omega)).2 x (hlevno j (Nat.zero_le _) h9)
        · rw [hvv]
          exact a_cf_self _ hv8 x
      have hcs : ∀ x w, w < 8 → a_dp (a_cf (a, b, c, e) v x) w = true → ∃ j, j < nv ∧ ord j = w := by
        intro x w hw hd
        refine hsup w hw ?_
        cases hd2 : a_dp (a, b, c, e) w with
        | true => rfl
        | false =>
          rw [a_cf_dp hv8 hw x hd2] at hd
          cases hd
      have hq : (a_slN (a, b, c, e) + e0) % 4096 < 4096 := Nat.mod_lt _ (by decide)
      have hF1 := rG1_fr G ((a_slN (a, b, c, e) + e0) % 4096) (ts.length + 2) (ts.length + 2) (a, b, c, e)
      have hN1 := rG1_N hNt hS hHs he0 h0 hne
      have hH1 := hH.fr hF1
      refine r198_y (d + n + 4) (ts.length + 2) _ (by omega) hq a b c e (Int32.ofNat l) G hNn ?_
      generalize rG1 G ((a_slN (a, b, c, e) + e0) % 4096) (ts.length + 2) (a, b, c, e) = G1 at hF1 hN1 hH1
      refine r198_lv (d + n + 1) hH1 a b c e l lev hlev (fun j h1 h2 => hlevno j (Nat.zero_le _) h2) (by rw [hvv]; exact hyes) _ _ _ ?_ (lev - l) l (by omega) (Nat.le_refl _)
      have ek : G1.1 161 lev = Int32.ofNat v := by rw [(hH1.2.1 lev hlev).1, hvv]
      have h8 := mg_v8 v hv8
      have hx1 : rFr (ts.length + 2) G1 (mg_sI G1 156 (ts.length + 2) (Int32.ofNat v)) := rFr.i (Or.inl rfl) (Nat.le_refl _)
      have hF2 := hF1.tr hx1 (Nat.le_refl _)
      have hN2 : rN (mg_sI G1 156 (ts.length + 2) (Int32.ofNat v)) (ts ++ [(a, b, c, e)]) := hN1.i (Or.inl rfl)
      have hH2 := hH1.fr hx1
      have hv2 : (mg_sI G1 156 (ts.length + 2) (Int32.ofNat v)).1 156 (ts.length + 2) = Int32.ofNat v := mg_sI_eq _ _ _ _
      obtain ⟨G2, hG2⟩ : ∃ G2, G2 = mg_sI G1 156 (ts.length + 2) (Int32.ofNat v) := ⟨_, rfl⟩
      rw [← hG2] at hF2 hN2 hH2 hv2
      have c0 : a_cof (G2.2.1 154) (a, b, c, e) v 0 = a_cf (a, b, c, e) v false := a_cof_m hH2.1 _ v hv8 0
      have ih1 := r198 ord nv n d (a_cof (G2.2.1 154) (a, b, c, e) v 0) (lev + 1) G2 (ts ++ [(a, b, c, e)]) hH2 hN2 hndA (by omega) (by omega) (by rw [c0]; exact hcl false) (by rw [c0]; exact hcs false) (by rw [c0, htB]; exact hlB)
      rw [← mg_inc lev] at ih1
      refine r198_z (d + n + 2) (ts.length + 2) lev v (by omega) (by omega) hv8 a b c e _ _ G1 ek (Q1 := rV ord nv (a_cof (G2.2.1 154) (a, b, c, e) v 0) (ts ++ [(a, b, c, e)]) (a_vis ord nv n (a_cof (G2.2.1 154) (a, b, c, e) v 0) (ts ++ [(a, b, c, e)])) G2) ?_ ?_
      · rw [← hG2, show G1.2.1 = G2.2.1 by rw [hG2]]
        exact ih1
      rintro o k G3 ⟨rfl, r1, rfl, hn1, hN3, hF3, hC3⟩
      refine ⟨rfl, r1, rfl, ?_⟩
      rw [c0, htB] at hn1 hN3 hC3
      rw [List.length_append, List.length_singleton] at hF3 hC3
      have hx3 : rFr (ts.length + 2) G3 (mg_sI G3 157 (ts.length + 2) (Int32.ofNat r1)) := rFr.i (Or.inr (Or.inl rfl)) (Nat.le_refl _)
      have hF4 := (hF2.tr hF3 (by omega)).tr hx3 (Nat.le_refl _)
      have hN4 : rN (mg_sI G3 157 (ts.length + 2) (Int32.ofNat r1)) tB := hN3.i (Or.inr (Or.inl rfl))
      have hH4 := (hH2.fr hF3).fr hx3
      have h6 : ∀ b i, b ≠ 157 → (mg_sI G3 157 (ts.length + 2) (Int32.ofNat r1)).1 b i = G3.1 b i := fun b i hb => congrFun (mg_u2_ne _ _ _ hb) i
      have h7 : ∀ i, i ≠ ts.length + 2 → (mg_sI G3 157 (ts.length + 2) (Int32.ofNat r1)).1 157 i = G3.1 157 i := fun i hi => mg_sI_ne _ _ _ _ hi
      have h7b : (mg_sI G3 157 (ts.length + 2) (Int32.ofNat r1)).1 157 (ts.length + 2) = Int32.ofNat r1 := mg_sI_eq _ _ _ _
      obtain ⟨G4, hG4⟩ : ∃ G4, G4 = mg_sI G3 157 (ts.length + 2) (Int32.ofNat r1) := ⟨_, rfl⟩
      rw [← hG4] at hF4 hN4 hH4 h7b
      have h6 : ∀ b i, b ≠ 157 → G4.1 b i = G3.1 b i := fun b i hb => by rw [hG4]; exact h6 b i hb
      have h7 : ∀ i, i ≠ ts.length + 2 → G4.1 157 i = G3.1 157 i := fun i hi => by rw [hG4]; exact h7 i hi
      have c1 : a_cof (G4.2.1 154) (a, b, c, e) v 1 = a_cf (a, b, c, e) v true := a_cof_m hH4.1 _ v hv8 1
      have ih2 := r198 ord nv n d (a_cof (G4.2.1 154) (a, b, c, e) v 1) (lev + 1) G4 tB hH4 hN4 hndB (by omega) (by omega) (by rw [c1]; exact hcl true) (by rw [c1]; exact hcs true) (by rw [c1, htC]; exact hlen)
      rw [← mg_inc lev] at ih2
      rw [← hG4, show G3.2.1 = G4.2.1 by rw [hG4]]
      refine mg_m_mono ih2 (by omega) ?_
      rintro o k G5 ⟨rfl, r2, rfl, hn2, hN5, hF5, hC5⟩
      rw [c1, htC] at hn2 hN5 hC5
      have hx5 : rFr (ts.length + 2) G5 (mg_sI G5 158 (ts.length + 2) (Int32.ofNat r2)) := rFr.i (Or.inr (Or.inr rfl)) (Nat.le_refl _)
      have h9 : ∀ b i, b ≠ 158 → (mg_sI G5 158 (ts.length + 2) (Int32.ofNat r2)).1 b i = G5.1 b i := fun b i hb => congrFun (mg_u2_ne _ _ _ hb) i
      have h9c : ∀ i, i ≠ ts.length + 2 → (mg_sI G5 158 (ts.length + 2) (Int32.ofNat r2)).1 158 i = G5.1 158 i := fun i hi => mg_sI_ne _ _ _ _ hi
      have h9b : (mg_sI G5 158 (ts.length + 2) (Int32.ofNat r2)).1 158 (ts.length + 2) = Int32.ofNat r2 := mg_sI_eq _ _ _ _
      have hN6 : rN (mg_sI G5 158 (ts.length + 2) (Int32.ofNat r2)) tC := hN5.i (Or.inr (Or.inr rfl))
      refine ⟨rfl, r2, rfl, rfl, ts.length + 2, rfl, ?_, hN6, (hF4.tr hF5 (by omega)).tr hx5 (Nat.le_refl _), fun i h1 h2 => ?_⟩
      · rw [hs3, hs2]
        exact a_nd_app (a_nd_app (a_nd_app1 _))
      · have hTC : tC[ts.length]? = some (a, b, c, e) := by
          rw [hs3, hs2, List.append_assoc, List.append_assoc, List.getElem?_append_right (Nat.le_refl _), Nat.sub_self]
          rfl
        rcases Nat.lt_or_eq_of_le h1 with h1 | rfl
        · by_cases hiB : i < tB.length
          · have h3 := hC3 i (by omega) hiB
            rw [hs3]
            refine h3.up ?_ ?_ ?_
            · exact (h9 156 _ (by decide)).trans ((hF5.2.1 156 _ (by decide) (by omega)).trans (h6 156 _ (by decide)))
            · exact (h9 157 _ (by decide)).trans ((hF5.2.1 157 _ (by decide) (by omega)).trans (h7 _ (by omega)))
            · exact (h9c _ (by omega)).trans ((hF5.2.1 158 _ (by decide) (by omega)).trans (h6 158 _ (by decide)))
          · have h3 := (hC5 i (by omega) h2).up (G' := mg_sI G5 158 (ts.length + 2) (Int32.ofNat r2)) (s := []) (h9 156 _ (by decide)) (h9 157 _ (by decide)) (h9c _ (by omega))
            rw [List.append_nil] at h3
            exact h3
        · refine ⟨(a, b, c, e), r1, r2, hTC, by rw [hlv]; exact hlev, ?_, ?_, ?_, h9b, ?_⟩
          · rw [hlv, hvv]
            exact (h9 156 _ (by decide)).trans ((hF5.2.1 156 _ (by decide) (by omega)).trans ((h6 156 _ (by decide)).trans ((hF3.2.1 156 _ (by decide) (by omega)).trans hv2)))
          · exact (h9 157 _ (by decide)).trans ((hF5.2.1 157 _ (by decide) (by omega)).trans h7b)
          · rw [hlv, hvv, hs3]
            exact a_nd_app hn1
          · rw [hlv, hvv]
            exact hn2
end RM
