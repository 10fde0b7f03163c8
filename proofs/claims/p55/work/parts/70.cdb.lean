theorem cC.up {G G' : mg_G} {g : Nat} {ord : Nat → Nat} {nv : Nat} {ts s : List a_T} {i : Nat} (h : cC G g ord nv ts i) (e6 : G'.1 (g + 3) (i + 2) = G.1 (g + 3) (i + 2)) (e7 : G'.1 (g + 4) (i + 2) = G.1 (g + 4) (i + 2)) (e8 : G'.1 (g + 5) (i + 2) = G.1 (g + 5) (i + 2)) : cC G' g ord nv (ts ++ s) i := by
  obtain ⟨T, kl, kh, h1, h2, h3, h4, h5, h6, h7⟩ := h
  exact ⟨T, kl, kh, by rw [List.getElem?_append_left (List.getElem?_eq_some_iff.mp h1).1]; exact h1, h2, e6.trans h3, e7.trans h4, a_nd_app h5, e8.trans h6, a_nd_app h7⟩
/-- the memory behind a new node -/
def cG1 (G : mg_G) (g q N : Nat) : mg_G := mg_sI (mg_sF G g 12 (.int (Int32.ofNat N + Int32.ofInt 1))) (g + 9) q (Int32.ofNat N + Int32.ofInt 1)
theorem cG1_fr (G : mg_G) (g q N m : Nat) : cFr g m G (cG1 G g q N) := by
  refine ⟨fun b _ _ _ b4 => mg_u2_ne _ _ _ b4, fun b i hb hi => congrFun (mg_u2_ne _ _ _ hb) i, fun b hb => rfl, fun _ _ => rfl, rfl, rfl, fun b k hb => ?_⟩
  show mg_u2 G.2.2.2.2 g 12 (.int (Int32.ofNat N + Int32.ofInt 1)) b k = _
  rw [mg_u2_at, if_neg hb]
theorem cG1_N {G : mg_G} {g n : Nat} {us : List a_T} {sl : Nat → Nat} {T : a_T} {e0 : Nat} (hR : ∀ i T, us[i]? = some T → cRow G (g + 2) i n T) (hS : ∀ q, q < 1024 → G.1 (g + 9) q = Int32.ofNat (sl q)) (hH : a_hs 1024 1 (fun T => a_hC (a_wd T) n) us sl) (hT : cRow G (g + 2) us.length n T) (he : e0 < 1024) (h0 : sl ((a_hC (a_wd T) n + e0) % 1024) = 0) (hne : ∀ e2, e2 < e0 → sl ((a_hC (a_wd T) n + e2) % 1024) ≠ 0) : cN (cG1 G g ((a_hC (a_wd T) n + e0) % 1024) us.length) g n (us ++ [T]) := by
  refine ⟨?_, fun i U hi => ?_, _, fun q hq => ?_, a_hs_add hH he h0 hne (by decide)⟩
  · show mg_u2 G.2.2.2.2 g 12 (.int (Int32.ofNat us.length + Int32.ofInt 1)) g 12 = _
    rw [mg_u2_at, if_pos ⟨rfl, rfl⟩, mg_inc, List.length_append, List.length_singleton]
  · by_cases hl : i < us.length
    · rw [List.getElem?_append_left hl] at hi
      exact hR i U hi
    · have hi2 := (List.getElem?_eq_some_iff.mp hi).1
      rw [List.length_append, List.length_singleton] at hi2
      have ei : i = us.length := by omega
      subst ei
      rw [List.getElem?_append_right (Nat.le_refl _), Nat.sub_self] at hi
      cases Option.some.inj hi
      exact hT
  · show mg_u2 G.1 (g + 9) ((a_hC (a_wd T) n + e0) % 1024) (Int32.ofNat us.length + Int32.ofInt 1) (g + 9) q = _
    rw [mg_u2_at]
    by_cases e : q = (a_hC (a_wd T) n + e0) % 1024
    · rw [if_pos ⟨rfl, e⟩, if_pos e, Nat.add_comm, mg_inc]
    · rw [if_neg (fun h => e h.2), if_neg e]
      exact hS q hq
abbrev a_us (ts : List a_T) : List a_T := a_zero :: a_one :: ts
theorem a_z1 : a_zero ≠ a_one := by decide
theorem a_us_nd {ts : List a_T} (h : ts.Nodup) (h0 : a_zero ∉ ts) (h1 : a_one ∉ ts) : (a_us ts).Nodup := by
  refine List.nodup_cons.mpr ⟨fun q => ?_, List.nodup_cons.mpr ⟨h1, h⟩⟩
  rcases List.mem_cons.mp q with q | q
  · exact a_z1 q
  · exact h0 q
/-- a visit adds no leaf -/
theorem a_vis_nl (ord : Nat → Nat) (nv : Nat) : ∀ n T ts, a_zero ∉ ts ∧ a_one ∉ ts → a_zero ∉ a_vis ord nv n T ts ∧ a_one ∉ a_vis ord nv n T ts
  | 0, T, ts, h => h
  | n + 1, T, ts, h => by
    unfold a_vis
    split
    · exact h
    · rename_i h3
      refine a_vis_nl ord nv n _ _ (a_vis_nl ord nv n _ _ ⟨fun q => ?_, fun q => ?_⟩)
      · rcases List.mem_append.mp q with q | q
        · exact h.1 q
        · exact h3 (Or.inl (List.mem_singleton.mp q).symm)
      · rcases List.mem_append.mp q with q | q
        · exact h.2 q
        · exact h3 (Or.inr (Or.inl (List.mem_singleton.mp q).symm))
/-- all tables of a visit depend on the order's variables alone -/
theorem a_vis_per (ord : Nat → Nat) (nv : Nat) (ho : ∀ j, j < nv → ord j < 8) : ∀ n T ts, a_per nv T → (∀ v, v < nv → ∃ j, j < nv ∧ ord j = v) → (∀ U, U ∈ ts → a_per nv U) → ∀ U, U ∈ a_vis ord nv n T ts → a_per nv U
  | 0, T, ts, hT, hs, h => h
  | n + 1, T, ts, hT, hs, h => by
    unfold a_vis
    split
    · exact h
    · rename_i h3
      have h9 : ∀ U, U ∈ ts ++ [T] → a_per nv U := fun U hU => by
        rcases List.mem_append.mp hU with q | q
        · exact h U q
        · rw [List.mem_singleton.mp q]
          exact hT
      have hlev : a_lev ord T 0 nv < nv := by
        refine Decidable.byContradiction fun hge => ?_
        have hno := a_lev_no ord T nv 0
        have hle := a_lev_le ord T nv 0
        refine (a_const (T := T) fun v hv => ?_).elim (fun q => h3 (Or.inl q)) (fun q => h3 (Or.inr (Or.inl q)))
        by_cases hvn : nv ≤ v
        · exact hT v hv hvn
        · obtain ⟨j, hj, rfl⟩ := hs v (by omega)
          exact hno j (Nat.zero_le _) (by omega)
      have hv8 := ho _ hlev
      exact a_vis_per ord nv ho n _ _ (a_pw_per hT hv8 true) hs (a_vis_per ord nv ho n _ _ (a_pw_per hT hv8 false) hs h9)
def cV (g : Nat) (ord : Nat → Nat) (nv n : Nat) (T : a_T) (ts ts' : List a_T) (G : mg_G) : mg_Q := fun o k G' => k = 0 ∧ ∃ r, o = .inl (some (.int (Int32.ofNat r))) ∧ a_nd ts' r T ∧ cN G' g n (a_us ts') ∧ cFr g (ts.length + 2) G G' ∧ ∀ i, ts.length ≤ i → i < ts'.length → cC G' g ord nv ts' i
section CD
variable {K : mg_K} {g : Nat}
/-- a new node, up to its children -/
theorem c3_y (d N q nv l : Nat) (H : kD K g) (hN : N < 628) (hq : q < 1024) (hl : l < nv) (h8 : nv ≤ 8) (x : Int32) (G : mg_G) (hn : G.2.2.2.2 g 12 = .int (Int32.ofNat N)) (hv : G.2.2.2.2 g 10 = .int (Int32.ofNat nv)) {Q : mg_Q}
    (k : mg_wp K mc_3 d 136 [some (.ref g), some (.int (Int32.ofNat l)), some (.int (Int32.ofNat q)), some (.int (Int32.ofNat N)), some (.int (Int32.ofNat l)), none] [] (cG1 G g q N) Q) :
    mg_wp K mc_3 d 75 [some (.ref g), some (.int (Int32.ofNat l)), some (.int (Int32.ofNat q)), some (.int x), none, none] [] G Q := by
  refine mg_go [136] 60 75 ms_3 ?_
  refine ⟨_, H.no hn, fun _ => ?_, fun h => absurd h (mg_nle (b := 628) hN (by decide))⟩
  refine ⟨_, H.no hn, _, H.no hn, rfl, _, H.1, rfl, ?_⟩
  refine ⟨_, H.sl, _, H.no ((mg_u2_at _ _ _ _ _ _).trans (if_pos ⟨rfl, rfl⟩)), 1024, q, H.s9, mg_ixN (by omega), hq, ?_⟩
  refine ⟨_, H.nv ((mg_u2_at _ _ _ _ _ _).trans ((if_neg (by omega)).trans hv)), fun _ => k, fun h => absurd h (mg_nle hl (by omega))⟩
/-- a new leaf -/
theorem c3_x (d N q nv : Nat) (H : kD K g) (hN : N < 628) (hq : q < 1024) (h8 : nv ≤ 8) (x : Int32) (G : mg_G) (hn : G.2.2.2.2 g 12 = .int (Int32.ofNat N)) (hv : G.2.2.2.2 g 10 = .int (Int32.ofNat nv)) {Q : mg_Q}
    (k : Q (.inl (some (.int (Int32.ofNat N)))) 0 (mg_sI (mg_sI (mg_sI (cG1 G g q N) (g + 3) N (Int32.ofNat nv)) (g + 4) N (Int32.ofInt (-1))) (g + 5) N (Int32.ofInt (-1)))) :
    mg_wp K mc_3 (d + 1) 75 [some (.ref g), some (.int (Int32.ofNat nv)), some (.int (Int32.ofNat q)), some (.int x), none, none] [] G Q := by
  have e10 : (cG1 G g q N).2.2.2.2 g 10 = .int (Int32.ofNat nv) := (mg_u2_at _ _ _ _ _ _).trans ((if_neg (by omega)).trans hv)
  refine mg_go [] 60 75 ms_3 ?_
  refine ⟨_, H.no hn, fun _ => ?_, fun h => absurd h (mg_nle (b := 628) hN (by decide))⟩
  refine ⟨_, H.no hn, _, H.no hn, rfl, _, H.1, rfl, ?_⟩
  refine ⟨_, H.sl, _, H.no ((mg_u2_at _ _ _ _ _ _).trans (if_pos ⟨rfl, rfl⟩)), 1024, q, H.s9, mg_ixN (by omega), hq, ?_⟩
  refine ⟨_, H.nv e10, fun h => absurd h (Int32.not_lt.mpr (Int32.le_refl _)), fun _ => ?_⟩
  refine ⟨_, H.nv e10, Or.inr H.is, mg_cn (c4 d N H hN _ _ _ _) (by omega) ?_⟩
  exact ⟨Or.inl rfl, k⟩
/-- the children -/
theorem c3_z (d N lev v n : Nat) (H : kD K g) (hN : N < 628) (hlev : lev < 8) (x1 x2 : Int32) (G1 : mg_G) (e12 : G1.2.2.2.2 g 12 = .int (Int32.ofNat (N + 1))) (ek : G1.1 (g + 8) lev = Int32.ofNat v) {f0 f1 : Nat → Int64} {Q Q1 : mg_Q}
    (hf0 : mg_m K (d + 1) 86 [.ref (g + 1), .int (Int32.ofNat (N + 1)), .int (Int32.ofNat N), .int (Int32.ofNat v), .int (Int32.ofInt 0)] G1 (mg_n (cW G1 (g + 2) (N + 1) n f0)))
    (ih1 : mg_m K (d + 1) 3 [.ref g, .int (Int32.ofNat (lev + 1))] (cW G1 (g + 2) (N + 1) n f0) Q1)
    (h2 : ∀ o k G3, Q1 o k G3 → k = 0 ∧ ∃ r1 N3, o = .inl (some (.int (Int32.ofNat r1))) ∧ G3.2.2.2.2 g 12 = .int (Int32.ofNat N3) ∧ G3.1 (g + 8) lev = Int32.ofNat v ∧ mg_m K (d + 1) 86 [.ref (g + 1), .int (Int32.ofNat N3), .int (Int32.ofNat N), .int (Int32.ofNat v), .int (Int32.ofInt 1)] G3 (mg_n (cW G3 (g + 2) N3 n f1)) ∧ mg_m K (d + 1) 3 [.ref g, .int (Int32.ofNat (lev + 1))] (cW G3 (g + 2) N3 n f1)
      (fun o k G5 => k = 0 ∧ ∃ r2, o = .inl (some (.int (Int32.ofNat r2))) ∧ Q (.inl (some (.int (Int32.ofNat N)))) 0 (mg_sI (mg_sI (mg_sI G5 (g + 3) N (Int32.ofNat lev)) (g + 4) N (Int32.ofNat r1)) (g + 5) N (Int32.ofNat r2)))) :
    mg_wp K mc_3 (d + 1) 171 [some (.ref g), some (.int x1), some (.int x2), some (.int (Int32.ofNat N)), some (.int (Int32.ofNat lev)), none] [] G1 Q := by
  rw [← mg_inc lev] at ih1
  refine mg_go [] 80 171 ms_3 ?_
  refine ⟨_, H.t, _, H.no e12, _, H.od, 8, _, lev, H.A8, mg_ixN (by omega), hlev, ?_⟩
  rw [ek]
  refine ⟨Or.inr H.T.is, mg_cn hf0 (Nat.le_refl _) ?_⟩
  refine ⟨Or.inr H.is, mg_m_mono ih1 (Nat.le_refl _) ?_⟩
  intro o k G3 hq
  obtain ⟨rfl, r1, N3, rfl, e12', ek', hf1, hm⟩ := h2 o k G3 hq
  rw [← mg_inc lev] at hm
  refine ⟨_, H.t, _, H.no e12', _, H.od, 8, _, lev, H.A8, mg_ixN (by omega), hlev, ?_⟩
  rw [ek']
  refine ⟨Or.inr H.T.is, mg_cn hf1 (Nat.le_refl _) ?_⟩
  refine ⟨Or.inr H.is, mg_m_mono hm (Nat.le_refl _) ?_⟩
  rintro o k G5 ⟨rfl, r2, rfl, hq5⟩
  refine ⟨Or.inr H.is, mg_cn (c4 d N H hN _ _ _ _) (by omega) ?_⟩
  exact ⟨Or.inl rfl, hq5⟩
set_option maxHeartbeats 2000000 in
theorem c3 (H : kD K g) (ord : Nat → Nat) (nv n : Nat) : ∀ (m d : Nat) (T : a_T) (l : Nat) (G : mg_G) (ts : List a_T), cH G g ord nv n → cN G g n (a_us ts) → ts.Nodup → a_zero ∉ ts ∧ a_one ∉ ts → (∀ U, U ∈ ts → a_per nv U) → a_per nv T → cRow G (g + 2) (ts.length + 2) n T → nv < l + m → l ≤ nv → (∀ j, j < l → a_dp T (ord j) = false) → (a_vis ord nv m T ts).length ≤ 626 →
    mg_m K (d + m + 2) 3 [.ref g, .int (Int32.ofNat l)] G (cV g ord nv n T ts (a_vis ord nv m T ts) G)
  | 0, d, T, l, G, ts, _, _, _, _, _, _, _, hf, hl, _, _ => by omega
  | m + 1, d, T, l, G, ts, hH, hN, hnd, hnl, hper, hTp, hT, hf, hl, hlo, hlen => by
    have hn := hH.n
    have hO := hH.2.2.2.2
    have h8 : nv ≤ 8 := hO.2.2.2
    have hpw : ∀ U, a_per nv U → a_pw U n := fun U hU => by rw [hH.2.1]; exact a_per_pw hU h8
    obtain ⟨hNn, hNt, sl, hS, hHs⟩ := hN
    obtain ⟨s9, hs9⟩ := a_vis_pre ord nv (m + 1) T ts
    have hlts : ts.length ≤ 626 := by rw [hs9, List.length_append] at hlen; omega
    have eus : (a_us ts).length = ts.length + 2 := rfl
    obtain ⟨e0, he0, h0, hne⟩ := a_hs_free hHs (by omega) (a_hC (a_wd T) n)
    have hpu : ∀ U, U ∈ a_us ts → a_pw U n := fun U hU => by
      rcases List.mem_cons.mp hU with rfl | hU
      · exact hpw _ (a_per_0 nv)
      · rcases List.mem_cons.mp hU with rfl | hU
        · exact hpw _ (a_per_1 nv)
        · exact hpw _ (hper U hU)
    have hdg := c90 (K := K) (a := g + 1) (b := g + 2) (G := G) 0 (ts.length + 2) H.T hH.1 (by omega)
    rw [a_hC_c (f := fun w => G.2.1 (g + 2) (4 * (ts.length + 2) + w)) (g := a_wd T) (fun w hw => hT w hw)] at hdg
    refine mg_me [14] 30 my_3 ms_3 (Nat.le_of_ble_eq_true rfl) ?_
    refine ⟨_, H.t, _, H.no hNn, Or.inr H.T.is, mg_cv hdg (by omega) ?_⟩
    have key := c3_sl (K := K) (d + m + 1) H hH.1 hn (by omega) hNn hNt hS hHs hpu T hT (hpw T hTp) (Int32.ofNat l) he0 h0 hne (Q := cV g ord nv n T ts (a_vis ord nv (m + 1) T ts) G) ?kf ?kn (a_us_nd hnd hnl.1 hnl.2) e0 0 (by omega) (fun e2 h2 => by omega)
    case kf =>
      intro i hi
      have h3 : (T = a_zero ∨ T = a_one ∨ T ∈ ts) ∧ a_nd ts i T := by
        match i, hi with
        | 0, hi => exact ⟨Or.inl (Option.some.inj hi).symm, Or.inl ⟨rfl, (Option.some.inj hi).symm⟩⟩
        | 1, hi => exact ⟨Or.inr (Or.inl (Option.some.inj hi).symm), Or.inr (Or.inl ⟨rfl, (Option.some.inj hi).symm⟩)⟩
        | i + 2, hi => exact ⟨Or.inr (Or.inr (List.mem_of_getElem? (show ts[i]? = some T from hi))), Or.inr (Or.inr ⟨by omega, hi⟩)⟩
      have ev : a_vis ord nv (m + 1) T ts = ts := by unfold a_vis; rw [if_pos h3.1]
      rw [ev]
      exact ⟨rfl, i, rfl, h3.2, ⟨hNn, hNt, sl, hS, hHs⟩, cFr.rf _ _ _, fun i h1 h2 => by omega⟩
    · rw [Nat.add_zero (a_hC (a_wd T) n), Nat.mod_eq_of_lt (a_hC_lt _ _)] at key
      exact key
    case kn =>
      intro hni
      have hz2 : ¬ T = a_zero := fun q => hni (q ▸ List.mem_cons_self)
      have ho2 : ¬ T = a_one := fun q => hni (q ▸ List.mem_cons_of_mem _ List.mem_cons_self)
      have hni2 : T ∉ ts := fun q => hni (List.mem_cons_of_mem _ (List.mem_cons_of_mem _ q))
      have ev : a_vis ord nv (m + 1) T ts = a_vis ord nv m (a_cf T (ord (a_lev ord T 0 nv)) true) (a_vis ord nv m (a_cf T (ord (a_lev ord T 0 nv)) false) (ts ++ [T])) := by
        conv => lhs; unfold a_vis
        rw [if_neg (fun q => q.elim hz2 (fun q => q.elim ho2 hni2))]
      have hlevle := a_lev_le ord T nv 0
      have hlevno := a_lev_no ord T nv 0
      have hlevyes := a_lev_yes ord T nv 0
      generalize hlv : a_lev ord T 0 nv = lev at ev hlevle hlevno hlevyes
      have hlev : lev < nv := by
        refine Decidable.byContradiction fun hge => ?_
        refine (a_const (T := T) fun v hv => ?_).elim hz2 ho2
        by_cases hvn : nv ≤ v
        · exact hTp v hv hvn
        · obtain ⟨j, hj, rfl⟩ := hO.2.1 v (by omega)
          exact hlevno j (Nat.zero_le _) (by omega)
      have hyes := hlevyes (by omega)
      have hll : l ≤ lev := Nat.le_of_not_lt fun hlt => by
        rw [hlo lev hlt] at hyes
        cases hyes
      have hv8 := hO.1 lev hlev
      have ek : G.1 (g + 8) lev = Int32.ofNat (ord lev) := hH.2.2.2.1 lev hlev
      generalize hvv : ord lev = v at ev hyes hv8 ek
      obtain ⟨s2, hs2⟩ := a_vis_pre ord nv m (a_cf T v false) (ts ++ [T])
      obtain ⟨s3, hs3⟩ := a_vis_pre ord nv m (a_cf T v true) (a_vis ord nv m (a_cf T v false) (ts ++ [T]))
      have hndA := a_nodup1 hnd hni2
      have hndB := a_vis_nd ord nv m (a_cf T v false) _ hndA
      have hnlA : a_zero ∉ ts ++ [T] ∧ a_one ∉ ts ++ [T] := ⟨fun q => (List.mem_append.mp q).elim hnl.1 (fun q => hz2 (List.mem_singleton.mp q).symm), fun q => (List.mem_append.mp q).elim hnl.2 (fun q => ho2 (List.mem_singleton.mp q).symm)⟩
      have hnlB := a_vis_nl ord nv m (a_cf T v false) _ hnlA
      have hperA : ∀ U, U ∈ ts ++ [T] → a_per nv U := fun U hU => (List.mem_append.mp hU).elim (hper U) (fun q => by rw [List.mem_singleton.mp q]; exact hTp)
      have hperB := a_vis_per ord nv (fun j hj => by have := hO.1 j hj; omega) m (a_cf T v false) _ (a_pw_per hTp (by omega) false) hO.2.1 hperA
      rw [ev] at hlen ⊢
      generalize htB : a_vis ord nv m (a_cf T v false) (ts ++ [T]) = tB at hs2 hs3 hndB hnlB hperB hlen ⊢
      generalize htC : a_vis ord nv m (a_cf T v true) tB = tC at hs3 hlen ⊢
      have hlB : tB.length ≤ 626 := by rw [hs3, List.length_append] at hlen; omega
      have hlA : ts.length + 1 ≤ tB.length := by rw [hs2, List.length_append, List.length_append, List.length_singleton]; omega
      have hcl : ∀ x j, j < lev + 1 → a_dp (a_cf T v x) (ord j) = false := by
        intro x j hj
        rcases Nat.lt_or_eq_of_le (Nat.le_of_lt_succ hj) with h9 | rfl
        · exact a_cf_dp (by omega) (by have := hO.1 j (by omega); omega) x (hlevno j (Nat.zero_le _) h9)
        · rw [hvv]
          exact a_cf_self _ (by omega) x
      have hq : (a_hC (a_wd T) n + e0) % 1024 < 1024 := Nat.mod_lt _ (by decide)
      have hF1 := cG1_fr G g ((a_hC (a_wd T) n + e0) % 1024) (ts.length + 2) (ts.length + 3)
      have hN1 := cG1_N hNt hS hHs hT he0 h0 hne
      have hH1 := hH.fr hF1
      refine c3_y (d + m + 2) (ts.length + 2) _ nv l H (by omega) hq (by omega) h8 _ G hNn hH.2.2.1 ?_
      rw [eus] at hN1
      generalize cG1 G g ((a_hC (a_wd T) n + e0) % 1024) (ts.length + 2) = G1 at hF1 hN1 hH1
      have hT1 : cRow G1 (g + 2) (ts.length + 2) n T := hT.fr hF1 (by omega) (by omega)
      refine c3_lv (d + m + 1) H hH1 T (ts.length + 2) (by omega) hT1 (hpw T hTp) l lev hlev (fun j h1 h2 => hlevno j (Nat.zero_le _) h2) (by rw [hvv]; exact hyes) _ _ ?_ (lev - l) l (by omega) (Nat.le_refl _)
      have ek1 : G1.1 (g + 8) lev = Int32.ofNat v := (congrFun (hF1.1 (g + 8) (by omega) (by omega) (by omega) (by omega)) lev).trans ek
      have e12 : G1.2.2.2.2 g 12 = .int (Int32.ofNat (ts.length + 2 + 1)) := by
        have := hN1.1
        rw [List.length_append, List.length_singleton] at this
        exact this
      have hF2 : cFr g (ts.length + 3) G1 (cW G1 (g + 2) (ts.length + 2 + 1) n (a_wd (a_cf T v false))) := cFr.w (by omega)
      have hN2 : cN (cW G1 (g + 2) (ts.length + 2 + 1) n (a_wd (a_cf T v false))) g n (a_us (ts ++ [T])) := hN1.w (by show (a_us ts ++ [T]).length ≤ _; rw [List.length_append]; exact Nat.le_refl _) (by omega)
      have hH2 := hH1.fr hF2
      have hR2 : cRow (cW G1 (g + 2) (ts.length + 2 + 1) n (a_wd (a_cf T v false))) (g + 2) ((ts ++ [T]).length + 2) n (a_cf T v false) := by
        rw [List.length_append, List.length_singleton]
        exact cRow.at
      have hvn : 6 ≤ v → 2 ^ (v - 6) < n := fun h6 => by rw [hH.2.1]; exact a_wds_v nv h8 v hv8 h6
      have hf0 := c86 (K := K) (a := g + 1) (b := g + 2) (G := G1) (d + m + 1) (ts.length + 2 + 1) (ts.length + 2) v false H.T hH1.1 hn (by omega) hvn (by omega) (by omega) (by omega) hT1
      have ih1 := c3 H ord nv n m d (a_cf T v false) (lev + 1) _ (ts ++ [T]) hH2 hN2 hndA hnlA hperA (a_pw_per hTp (by omega) false) hR2 (by omega) (by omega) (hcl false) (by rw [htB]; exact hlB)
      refine c3_z (d + m + 1) (ts.length + 2) lev v n H (by omega) (by omega) _ _ G1 e12 ek1 (f1 := a_wd (a_cf T v true)) hf0 ih1 ?_
      rintro o k G3 ⟨rfl, r1, rfl, hn1, hN3, hF3, hC3⟩
      rw [htB] at hn1 hN3 hC3
      rw [List.length_append, List.length_singleton] at hF3 hC3
      have hF3' := (hF1.tr (hF2.tr hF3 (by omega)) (by omega))
      have hT3 : cRow G3 (g + 2) (ts.length + 2) n T := hT.fr hF3' (by omega) (by omega)
      have hH3 := hH2.fr hF3
      have hf1 := c86 (K := K) (a := g + 1) (b := g + 2) (G := G3) (d + m + 1) (tB.length + 2) (ts.length + 2) v true H.T hH3.1 hn (by omega) hvn (by omega) (by omega) (by omega) hT3
      have hF4 : cFr g (tB.length + 2) G3 (cW G3 (g + 2) (tB.length + 2) n (a_wd (a_cf T v true))) := cFr.w (by omega)
      have hN4 : cN (cW G3 (g + 2) (tB.length + 2) n (a_wd (a_cf T v true))) g n (a_us tB) := hN3.w (Nat.le_refl _) (by omega)
      have hH4 := hH3.fr hF4
      have ih2 := c3 H ord nv n m d (a_cf T v true) (lev + 1) _ tB hH4 hN4 hndB hnlB hperB (a_pw_per hTp (by omega) true) cRow.at (by omega) (by omega) (hcl true) (by rw [htC]; exact hlen)
      refine ⟨rfl, r1, tB.length + 2, rfl, hN3.1, (congrFun (hF3'.1 (g + 8) (by omega) (by omega) (by omega) (by omega)) lev).trans ek, hf1, mg_m_mono ih2 (Nat.le_refl _) ?_⟩
      rintro o k G5 ⟨rfl, r2, rfl, hn2, hN5, hF5, hC5⟩
      rw [htC] at hn2 hN5 hC5
      have x3 : ∀ b i, b ≠ g + 3 → b ≠ g + 4 → b ≠ g + 5 → (mg_sI (mg_sI (mg_sI G5 (g + 3) (ts.length + 2) (Int32.ofNat lev)) (g + 4) (ts.length + 2) (Int32.ofNat r1)) (g + 5) (ts.length + 2) (Int32.ofNat r2)).1 b i = G5.1 b i := fun b i b3 b4 b5 => by
        rw [mg_sI_at, if_neg (by omega), mg_sI_at, if_neg (by omega), mg_sI_at, if_neg (by omega)]
      have x4 : ∀ b i, i ≠ ts.length + 2 → (mg_sI (mg_sI (mg_sI G5 (g + 3) (ts.length + 2) (Int32.ofNat lev)) (g + 4) (ts.length + 2) (Int32.ofNat r1)) (g + 5) (ts.length + 2) (Int32.ofNat r2)).1 b i = G5.1 b i := fun b i hi => by
        rw [mg_sI_at, if_neg (by omega), mg_sI_at, if_neg (by omega), mg_sI_at, if_neg (by omega)]
      have y3 : (mg_sI (mg_sI (mg_sI G5 (g + 3) (ts.length + 2) (Int32.ofNat lev)) (g + 4) (ts.length + 2) (Int32.ofNat r1)) (g + 5) (ts.length + 2) (Int32.ofNat r2)).1 (g + 3) (ts.length + 2) = Int32.ofNat lev := by
        rw [mg_sI_at, if_neg (by omega), mg_sI_at, if_neg (by omega), mg_sI_at, if_pos ⟨rfl, rfl⟩]
      have y4 : (mg_sI (mg_sI (mg_sI G5 (g + 3) (ts.length + 2) (Int32.ofNat lev)) (g + 4) (ts.length + 2) (Int32.ofNat r1)) (g + 5) (ts.length + 2) (Int32.ofNat r2)).1 (g + 4) (ts.length + 2) = Int32.ofNat r1 := by
        rw [mg_sI_at, if_neg (by omega), mg_sI_at, if_pos ⟨rfl, rfl⟩]
      have y5 : (mg_sI (mg_sI (mg_sI G5 (g + 3) (ts.length + 2) (Int32.ofNat lev)) (g + 4) (ts.length + 2) (Int32.ofNat r1)) (g + 5) (ts.length + 2) (Int32.ofNat r2)).1 (g + 5) (ts.length + 2) = Int32.ofNat r2 := by
        rw [mg_sI_at, if_pos ⟨rfl, rfl⟩]
      have hN6 : cN (mg_sI (mg_sI (mg_sI G5 (g + 3) (ts.length + 2) (Int32.ofNat lev)) (g + 4) (ts.length + 2) (Int32.ofNat r1)) (g + 5) (ts.length + 2) (Int32.ofNat r2)) g n (a_us tC) := ((hN5.i (Or.inl rfl)).i (Or.inr (Or.inl rfl))).i (Or.inr (Or.inr rfl))
      have hF6 : cFr g (ts.length + 2) G5 (mg_sI (mg_sI (mg_sI G5 (g + 3) (ts.length + 2) (Int32.ofNat lev)) (g + 4) (ts.length + 2) (Int32.ofNat r1)) (g + 5) (ts.length + 2) (Int32.ofNat r2)) := ((cFr.i (Or.inl rfl) (Nat.le_refl _)).tr (cFr.i (Or.inr (Or.inl rfl)) (Nat.le_refl _)) (Nat.le_refl _)).tr (cFr.i (Or.inr (Or.inr rfl)) (Nat.le_refl _)) (Nat.le_refl _)
      refine ⟨rfl, r2, rfl, ?_⟩
      generalize mg_sI (mg_sI (mg_sI G5 (g + 3) (ts.length + 2) (Int32.ofNat lev)) (g + 4) (ts.length + 2) (Int32.ofNat r1)) (g + 5) (ts.length + 2) (Int32.ofNat r2) = G6 at x3 x4 y3 y4 y5 hN6 hF6 ⊢
      have hF15 : cFr g (ts.length + 3) G1 G5 := (hF2.tr hF3 (by omega)).tr (hF4.tr hF5 (Nat.le_refl _)) (by omega)
      have hF05 : cFr g (ts.length + 2) G G5 := by
        have h9 := cG1_fr G g 0 0 0
        exact ⟨fun b b1 b2 b3 b4 => (hF15.1 b b1 b2 b3 b4).trans (hF1.1 b b1 b2 b3 b4), fun b i hb hi => (hF15.2.1 b i hb (by omega)).trans (hF1.2.1 b i hb (by omega)), fun b hb => (hF15.2.2.1 b hb).trans (hF1.2.2.1 b hb), fun i hi => (hF15.2.2.2.1 i (by omega)).trans (hF1.2.2.2.1 i (by omega)), hF15.2.2.2.2.1.trans hF1.2.2.2.2.1, hF15.2.2.2.2.2.1.trans hF1.2.2.2.2.2.1, fun b k hb => (hF15.2.2.2.2.2.2 b k hb).trans (hF1.2.2.2.2.2.2 b k hb)⟩
      refine ⟨rfl, ts.length + 2, rfl, ?_, hN6, hF05.tr hF6 (Nat.le_refl _), fun i h1 h2 => ?_⟩
      · rw [hs3, hs2]
        exact a_nd_app (a_nd_app (a_nd_app1 _))
      · have hTC : tC[ts.length]? = some T := by
          rw [hs3, hs2, List.append_assoc, List.append_assoc, List.getElem?_append_right (Nat.le_refl _), Nat.sub_self]
          rfl
        have hF35 := hF4.tr hF5 (Nat.le_refl _)
        rcases Nat.lt_or_eq_of_le h1 with h1 | rfl
        · by_cases hiB : i < tB.length
          · have h3 := hC3 i (by omega) hiB
            rw [hs3]
            exact h3.up ((x4 _ _ (by omega)).trans (hF35.2.1 _ _ (by omega) (by omega))) ((x4 _ _ (by omega)).trans (hF35.2.1 _ _ (by omega) (by omega))) ((x4 _ _ (by omega)).trans (hF35.2.1 _ _ (by omega) (by omega)))
          · have h3 := (hC5 i (by omega) h2).up (G' := G6) (s := []) (x4 _ _ (by omega)) (x4 _ _ (by omega)) (x4 _ _ (by omega))
            rw [List.append_nil] at h3
            exact h3
        · refine ⟨T, r1, r2, hTC, by rw [hlv]; exact hlev, by rw [hlv]; exact y3, y4, ?_, y5, ?_⟩
          · rw [hlv, hvv, hs3]
            exact a_nd_app hn1
          · rw [hlv, hvv]
            exact hn2
end CD
