def kD (K : mg_K) (g : Nat) : Prop := K.2[g]? = some (.inr (0, [some (.ref (g + 1)), some (.ref (g + 3)), some (.ref (g + 4)), some (.ref (g + 5)), some (.ref (g + 6)), some (.ref (g + 7)), some (.ref (g + 8)), some (.ref (g + 9)), some (.ref (g + 10)), none, none, none, none])) ∧ kT K (g + 1) (g + 2) 2516 ∧ K.2[g + 3]? = some (.inl (0, 628)) ∧ K.2[g + 4]? = some (.inl (0, 628)) ∧ K.2[g + 5]? = some (.inl (0, 628)) ∧ K.2[g + 6]? = some (.inl (0, 628)) ∧ K.2[g + 7]? = some (.inl (0, 12)) ∧ K.2[g + 8]? = some (.inl (0, 8)) ∧ K.2[g + 9]? = some (.inl (0, 1024)) ∧ K.2[g + 10]? = some (.inl (0, 259)) ∧ g + 10 < 1000000
section KD
variable {K : mg_K} {g : Nat} {G : mg_G}
theorem kD.t (h : kD K g) : mg_F K G g 0 0 (.ref (g + 1)) := mg_Fs h.1 rfl
theorem kD.lv (h : kD K g) : mg_F K G g 0 1 (.ref (g + 3)) := mg_Fs h.1 rfl
theorem kD.lo (h : kD K g) : mg_F K G g 0 2 (.ref (g + 4)) := mg_Fs h.1 rfl
theorem kD.hi (h : kD K g) : mg_F K G g 0 3 (.ref (g + 5)) := mg_Fs h.1 rfl
theorem kD.rb (h : kD K g) : mg_F K G g 0 4 (.ref (g + 6)) := mg_Fs h.1 rfl
theorem kD.ro (h : kD K g) : mg_F K G g 0 5 (.ref (g + 7)) := mg_Fs h.1 rfl
theorem kD.od (h : kD K g) : mg_F K G g 0 6 (.ref (g + 8)) := mg_Fs h.1 rfl
theorem kD.sl (h : kD K g) : mg_F K G g 0 7 (.ref (g + 9)) := mg_Fs h.1 rfl
theorem kD.fn (h : kD K g) {v : Value} (e : G.2.2.2.2 g 9 = v) : mg_F K G g 0 9 v := mg_Fe e h.1 rfl
theorem kD.nv (h : kD K g) {v : Value} (e : G.2.2.2.2 g 10 = v) : mg_F K G g 0 10 v := mg_Fe e h.1 rfl
theorem kD.no (h : kD K g) {v : Value} (e : G.2.2.2.2 g 12 = v) : mg_F K G g 0 12 v := mg_Fe e h.1 rfl
theorem kD.T (h : kD K g) : kT K (g + 1) (g + 2) 2516 := h.2.1
theorem kD.A3 (h : kD K g) : mg_A K G (g + 3) 0 628 (.inl (G.1 (g + 3))) := mg_Ai h.2.2.1 (by have := h.2.2.2.2.2.2.2.2.2.2; omega)
theorem kD.A4 (h : kD K g) : mg_A K G (g + 4) 0 628 (.inl (G.1 (g + 4))) := mg_Ai h.2.2.2.1 (by have := h.2.2.2.2.2.2.2.2.2.2; omega)
theorem kD.A5 (h : kD K g) : mg_A K G (g + 5) 0 628 (.inl (G.1 (g + 5))) := mg_Ai h.2.2.2.2.1 (by have := h.2.2.2.2.2.2.2.2.2.2; omega)
theorem kD.A6 (h : kD K g) : mg_A K G (g + 6) 0 628 (.inl (G.1 (g + 6))) := mg_Ai h.2.2.2.2.2.1 (by have := h.2.2.2.2.2.2.2.2.2.2; omega)
theorem kD.A7 (h : kD K g) : mg_A K G (g + 7) 0 12 (.inl (G.1 (g + 7))) := mg_Ai h.2.2.2.2.2.2.1 (by have := h.2.2.2.2.2.2.2.2.2.2; omega)
theorem kD.A8 (h : kD K g) : mg_A K G (g + 8) 0 8 (.inl (G.1 (g + 8))) := mg_Ai h.2.2.2.2.2.2.2.1 (by have := h.2.2.2.2.2.2.2.2.2.2; omega)
theorem kD.A9 (h : kD K g) : mg_A K G (g + 9) 0 1024 (.inl (G.1 (g + 9))) := mg_Ai h.2.2.2.2.2.2.2.2.1 (by have := h.2.2.2.2.2.2.2.2.2.2; omega)
theorem kD.s3 (h : kD K g) : K.2[g + 3]? = some (.inl (0, 628)) := h.2.2.1
theorem kD.s4 (h : kD K g) : K.2[g + 4]? = some (.inl (0, 628)) := h.2.2.2.1
theorem kD.s5 (h : kD K g) : K.2[g + 5]? = some (.inl (0, 628)) := h.2.2.2.2.1
theorem kD.s6 (h : kD K g) : K.2[g + 6]? = some (.inl (0, 628)) := h.2.2.2.2.2.1
theorem kD.s7 (h : kD K g) : K.2[g + 7]? = some (.inl (0, 12)) := h.2.2.2.2.2.2.1
theorem kD.s9 (h : kD K g) : K.2[g + 9]? = some (.inl (0, 1024)) := h.2.2.2.2.2.2.2.2.1
theorem kD.is (h : kD K g) {r : List Value} : mg_isr K 0 (.ref g :: r) := ⟨_, h.1⟩
theorem kT.is {a b N : Nat} (h : kT K a b N) {r : List Value} : mg_isr K 6 (.ref a :: r) := ⟨_, h.1⟩
end KD
/-- the order's variables are those below nv -/
def aO (ord : Nat → Nat) (nv : Nat) : Prop := (∀ j, j < nv → ord j < nv) ∧ (∀ v, v < nv → ∃ j, j < nv ∧ ord j = v) ∧ (∀ i j, i < nv → j < nv → ord i = ord j → i = j) ∧ nv ≤ 8
def cH (G : mg_G) (g : Nat) (ord : Nat → Nat) (nv n : Nat) : Prop := G.2.2.2.2 (g + 1) 1 = .int (Int32.ofNat n) ∧ n = a_wds nv ∧ G.2.2.2.2 g 10 = .int (Int32.ofNat nv) ∧ (∀ j, j < nv → G.1 (g + 8) j = Int32.ofNat (ord j)) ∧ aO ord nv
/-- the tables of all nodes so far, the leaves' too -/
def cN (G : mg_G) (g n : Nat) (us : List a_T) : Prop := G.2.2.2.2 g 12 = .int (Int32.ofNat us.length) ∧ (∀ i T, us[i]? = some T → cRow G (g + 2) i n T) ∧ ∃ sl : Nat → Nat, (∀ q, q < 1024 → G.1 (g + 9) q = Int32.ofNat (sl q)) ∧ a_hs 1024 1 (fun T => a_hC (a_wd T) n) us sl
def cC (G : mg_G) (g : Nat) (ord : Nat → Nat) (nv : Nat) (ts : List a_T) (i : Nat) : Prop := ∃ T kl kh, ts[i]? = some T ∧ a_lev ord T 0 nv < nv ∧ G.1 (g + 3) (i + 2) = Int32.ofNat (a_lev ord T 0 nv) ∧ G.1 (g + 4) (i + 2) = Int32.ofNat kl ∧ a_nd ts kl (a_cf T (ord (a_lev ord T 0 nv)) false) ∧ G.1 (g + 5) (i + 2) = Int32.ofNat kh ∧ a_nd ts kh (a_cf T (ord (a_lev ord T 0 nv)) true)
/-- what a visit leaves as it was, with the nodes below m -/
def cFr (g m : Nat) (G G' : mg_G) : Prop := (∀ b, b ≠ g + 3 → b ≠ g + 4 → b ≠ g + 5 → b ≠ g + 9 → G'.1 b = G.1 b) ∧ (∀ b i, b ≠ g + 9 → i < m → G'.1 b i = G.1 b i) ∧ (∀ b, b ≠ g + 2 → G'.2.1 b = G.2.1 b) ∧ (∀ i, i < 4 * m → G'.2.1 (g + 2) i = G.2.1 (g + 2) i) ∧ G'.2.2.1 = G.2.2.1 ∧ G'.2.2.2.1 = G.2.2.2.1 ∧ (∀ b k, ¬ (b = g ∧ k = 12) → G'.2.2.2.2 b k = G.2.2.2.2 b k)
theorem cFr.rf (g m : Nat) (G : mg_G) : cFr g m G G := ⟨fun _ _ _ _ _ => rfl, fun _ _ _ _ => rfl, fun _ _ => rfl, fun _ _ => rfl, rfl, rfl, fun _ _ _ => rfl⟩
theorem cFr.tr {g n m : Nat} {G G' G'' : mg_G} (h : cFr g n G G') (h2 : cFr g m G' G'') (hn : n ≤ m) : cFr g n G G'' := by
  obtain ⟨a1, a2, a3, a4, a5, a6, a7⟩ := h
  obtain ⟨b1, b2, b3, b4, b5, b6, b7⟩ := h2
  exact ⟨fun b h1 h2 h3 h4 => (b1 b h1 h2 h3 h4).trans (a1 b h1 h2 h3 h4), fun b i hb hi => (b2 b i hb (by omega)).trans (a2 b i hb hi), fun b hb => (b3 b hb).trans (a3 b hb), fun i hi => (b4 i (by omega)).trans (a4 i hi), b5.trans a5, b6.trans a6, fun b k hb => (b7 b k hb).trans (a7 b k hb)⟩
theorem cFr.i {g n : Nat} {G : mg_G} {b i : Nat} {x : Int32} (hb : b = g + 3 ∨ b = g + 4 ∨ b = g + 5) (hi : n ≤ i) : cFr g n G (mg_sI G b i x) :=
  ⟨fun c c1 c2 c3 c4 => mg_u2_ne _ _ _ (by rcases hb with rfl | rfl | rfl <;> assumption), fun c j _ hj => by show mg_u2 G.1 b i x c j = _; rw [mg_u2_at, if_neg (by omega)], fun _ _ => rfl, fun _ _ => rfl, rfl, rfl, fun _ _ _ => rfl⟩
theorem cFr.w {g n m r : Nat} {G : mg_G} {f : Nat → Int64} (hr : n ≤ r) : cFr g n G (cW G (g + 2) r m f) :=
  ⟨fun _ _ _ _ _ => rfl, fun _ _ _ _ => rfl, fun b hb => cW_ne _ _ _ _ _ _ hb, fun i hi => cW_at _ _ _ _ _ _ (by omega), rfl, rfl, fun _ _ _ => rfl⟩
theorem cH.fr {g m : Nat} {G G' : mg_G} {ord : Nat → Nat} {nv n : Nat} (h : cH G g ord nv n) (hf : cFr g m G G') : cH G' g ord nv n :=
  ⟨(hf.2.2.2.2.2.2 (g + 1) 1 (by omega)).trans h.1, h.2.1, (hf.2.2.2.2.2.2 g 10 (by omega)).trans h.2.2.1, fun j hj => (congrFun (hf.1 (g + 8) (by omega) (by omega) (by omega) (by omega)) j).trans (h.2.2.2.1 j hj), h.2.2.2.2⟩
theorem cH.n {g : Nat} {G : mg_G} {ord : Nat → Nat} {nv n : Nat} (h : cH G g ord nv n) : n = 1 ∨ n = 2 ∨ n = 4 := by rw [h.2.1]; exact (a_wds_i nv h.2.2.2.2.2.2.2).1
theorem a_wds_v : ∀ nv, nv ≤ 8 → ∀ v, v < nv → 6 ≤ v → 2 ^ (v - 6) < a_wds nv := by decide +kernel
theorem cRow.fr {g m r n : Nat} {G G' : mg_G} {T : a_T} (h : cRow G (g + 2) r n T) (hf : cFr g m G G') (hn : n ≤ 4) (hr : r < m) : cRow G' (g + 2) r n T := fun w hw => (hf.2.2.2.1 _ (by omega)).trans (h w hw)
theorem cRow.at {G : mg_G} {b r n : Nat} {T : a_T} : cRow (cW G b r n (a_wd T)) b r n T := fun w hw => cW_in _ _ _ _ _ _ hw
theorem cN.i {g n : Nat} {G : mg_G} {us : List a_T} {b i : Nat} {x : Int32} (hb : b = g + 3 ∨ b = g + 4 ∨ b = g + 5) (h : cN G g n us) : cN (mg_sI G b i x) g n us := by
  obtain ⟨h1, h2, sl, h3, h4⟩ := h
  exact ⟨h1, h2, sl, fun q hq => (congrFun (mg_u2_ne G.1 i x (by omega : g + 9 ≠ b)) q).trans (h3 q hq), h4⟩
theorem cN.w {g n r : Nat} {G : mg_G} {us : List a_T} {f : Nat → Int64} (hr : us.length ≤ r) (hn : n ≤ 4) (h : cN G g n us) : cN (cW G (g + 2) r n f) g n us := by
  obtain ⟨h1, h2, sl, h3, h4⟩ := h
  refine ⟨h1, fun i T hi w hw => ?_, sl, h3, h4⟩
  have := (List.getElem?_eq_some_iff.mp hi).1
  rw [cW_at _ _ _ _ _ _ (by omega)]
  exact h2 i T hi w hw
theorem mg_nxtC (q : Nat) (hq : q < 1024) : (Int32.ofNat q + Int32.ofInt 1) - (Int32.ofNat q + Int32.ofInt 1) / (Int16.ofInt 1024).toInt32 * (Int16.ofInt 1024).toInt32 = Int32.ofNat ((q + 1) % 1024) := by
  have h : ∀ q, q < 1024 → (Int32.ofNat q + Int32.ofInt 1) - (Int32.ofNat q + Int32.ofInt 1) / (Int16.ofInt 1024).toInt32 * (Int16.ofInt 1024).toInt32 = Int32.ofNat ((q + 1) % 1024) := by decide +kernel
  exact h q hq
theorem mg_dec (k : Nat) : Int32.ofNat (k + 1) - Int32.ofInt 1 = Int32.ofNat k := by rw [← mg_inc k]; exact Int32.add_sub_cancel _ _
section CD
variable {K : mg_K} {g : Nat}
theorem c3_sl (d : Nat) (H : kD K g) {G : mg_G} {n : Nat} {us : List a_T} {sl : Nat → Nat} (hw : G.2.2.2.2 (g + 1) 1 = .int (Int32.ofNat n)) (hn : n = 1 ∨ n = 2 ∨ n = 4) (hlen : us.length ≤ 628) (hN : G.2.2.2.2 g 12 = .int (Int32.ofNat us.length)) (hR : ∀ i T, us[i]? = some T → cRow G (g + 2) i n T) (hS : ∀ q, q < 1024 → G.1 (g + 9) q = Int32.ofNat (sl q)) (hH : a_hs 1024 1 (fun T => a_hC (a_wd T) n) us sl) (hp : ∀ U, U ∈ us → a_pw U n) (T : a_T) (hT : cRow G (g + 2) us.length n T) (hTp : a_pw T n) (l : Int32)
    {e0 : Nat} (h1 : e0 < 1024) (h0 : sl ((a_hC (a_wd T) n + e0) % 1024) = 0) (hne : ∀ e2, e2 < e0 → sl ((a_hC (a_wd T) n + e2) % 1024) ≠ 0) {Q : mg_Q}
    (kf : ∀ i, us[i]? = some T → Q (.inl (some (.int (Int32.ofNat i)))) 0 G)
    (kn : T ∉ us → mg_wp K mc_3 (d + 1) 75 [some (.ref g), some (.int l), some (.int (Int32.ofNat ((a_hC (a_wd T) n + e0) % 1024))), some (.int (Int32.ofNat e0)), none, none] [] G Q) (hnd : us.Nodup) :
    ∀ (m e1 : Nat), e1 + m = e0 → (∀ e2, e2 < e1 → ∀ i, sl ((a_hC (a_wd T) n + e2) % 1024) = 1 + i → us[i]? ≠ some T) → mg_wp K mc_3 (d + 1) 14 [some (.ref g), some (.int l), some (.int (Int32.ofNat ((a_hC (a_wd T) n + e1) % 1024))), some (.int (Int32.ofNat e1)), none, none] [] G Q := by
  intro m
  induction m with
  | zero =>
    intro e1 he hw9
    have ee : e1 = e0 := by omega
    subst ee
    have hq : (a_hC (a_wd T) n + e1) % 1024 < 1024 := Nat.mod_lt _ (by decide)
    refine mg_go [14, 75] 60 14 ms_3 ?_
    refine ⟨fun h => absurd h (mg_nle (b := 1024) h1 (by decide)), fun _ => ⟨_, H.sl, 1024, _, _, H.A9, mg_ixN (by omega), hq, ?_⟩⟩
    rw [hS _ hq, h0]
    refine ⟨fun _ => kn (a_hs_not hH hnd h0 hw9 (by decide)), fun h => absurd rfl h⟩
  | succ m ih =>
    intro e1 he hw9
    have hq : (a_hC (a_wd T) n + e1) % 1024 < 1024 := Nat.mod_lt _ (by decide)
    have hz := hne e1 (by omega)
    obtain ⟨i, U, hi, hi2⟩ := a_hs_at hH hq hz
    have hil : i < us.length := (List.getElem?_eq_some_iff.mp hi).1
    have hv : G.1 (g + 9) ((a_hC (a_wd T) n + e1) % 1024) = Int32.ofNat (i + 1) := by rw [hS _ hq, hi2, Nat.add_comm]
    have hq8 := c88 (K := K) (a := g + 1) (b := g + 2) (G := G) d i us.length H.T hw (by omega) (by omega)
    rw [← mg_dec i, ← hv] at hq8
    refine mg_go [14, 75] 80 14 ms_3 ?_
    refine ⟨fun h => absurd h (mg_nle (b := 1024) (a := e1) (by omega) (by decide)), fun _ => ⟨_, H.sl, 1024, _, _, H.A9, mg_ixN (by omega), hq, ?_⟩⟩
    rw [hv]
    refine ⟨fun h => ?_, fun _ => ?_⟩
    · exfalso
      have := (mg_eqN (by omega) (by omega)).mp (show Int32.ofNat (i + 1) = Int32.ofNat 0 from h)
      omega
    refine ⟨_, H.t, _, H.sl, 1024, _, _, H.A9, mg_ixN (by omega), hq, _, H.no hN, ?_⟩
    refine ⟨Or.inr H.T.is, mg_m_mono hq8 (by omega) ?_⟩
    rintro o k G' ⟨rfl, rfl, ⟨rfl, hE⟩ | ⟨rfl, w, hw1, hE⟩⟩
    · have eU : U = T := a_pw_eq (hp U (List.mem_of_getElem? hi)) hTp (by omega) (fun w hw => by rw [← hR i U hi w hw, ← hT w hw]; exact hE w hw)
      have kf9 : Q (.inl (some (.int (G'.1 (g + 9) ((a_hC (a_wd T) n + e1) % 1024) - Int32.ofInt 1)))) 0 G' := by
        rw [hv, mg_dec]
        exact kf i (by rw [hi, eU])
      exact ⟨fun h => absurd h (by decide), fun _ => ⟨_, H.sl, 1024, _, _, H.A9, mg_ixN (by omega), hq, Or.inl rfl, kf9⟩⟩
    · refine ⟨fun _ => ?_, fun h => absurd rfl h⟩
      have nU : U ≠ T := fun q => hE (by rw [hR i U hi w hw1, hT w hw1, q])
      have := ih (e1 + 1) (by omega) (fun e2 h2 i2 h3 h4 => by
        rcases Nat.lt_or_eq_of_le (Nat.le_of_lt_succ h2) with h5 | rfl
        · exact hw9 e2 h5 i2 h3 h4
        · have : i2 = i := by omega
          subst this
          rw [hi] at h4
          exact nU (Option.some.inj h4))
      rw [show (a_hC (a_wd T) n + (e1 + 1)) % 1024 = ((a_hC (a_wd T) n + e1) % 1024 + 1) % 1024 by omega, ← mg_nxtC _ hq, ← mg_inc e1] at this
      exact this
theorem c3_lv (d : Nat) (H : kD K g) {G : mg_G} {ord : Nat → Nat} {nv n : Nat} (hH : cH G g ord nv n) (T : a_T) (N : Nat) (hN : N < 628) (hT : cRow G (g + 2) N n T) (hTp : a_pw T n) (l lev : Nat) (hlev : lev < nv) (hno : ∀ j, l ≤ j → j < lev → a_dp T (ord j) = false) (hyes : a_dp T (ord lev) = true) (x1 x2 : Int32) {Q : mg_Q}
    (k : mg_wp K mc_3 (d + 1) 171 [some (.ref g), some (.int x1), some (.int x2), some (.int (Int32.ofNat N)), some (.int (Int32.ofNat lev)), none] [] G Q) :
    ∀ (m j : Nat), j + m = lev → l ≤ j → mg_wp K mc_3 (d + 1) 136 [some (.ref g), some (.int x1), some (.int x2), some (.int (Int32.ofNat N)), some (.int (Int32.ofNat j)), none] [] G Q := by
  have hn := hH.n
  obtain ⟨g1, g2, g3, g4, g5, g6, g8, g7⟩ := hH
  have hdp : ∀ j, j < nv → mg_m K (d + 1) 87 [.ref (g + 1), .int (Int32.ofNat N), .int (Int32.ofNat (ord j))] G (mg_v (.int (if a_dp T (ord j) then 1 else 0)) G) := fun j hj => c87 d N (ord j) H.T g1 hn (by have := g5 j hj; omega) (fun h6 => by rw [g2]; exact a_wds_v nv g7 _ (g5 j hj) h6) (by omega) hT hTp
  have hnv : ∀ a : Nat, 0 < nv → Int32.ofNat nv - Int32.ofInt 1 = Int32.ofNat (nv - 1) := fun _ h => by
    obtain ⟨q, rfl⟩ : ∃ q, nv = q + 1 := ⟨nv - 1, by omega⟩
    exact mg_dec q
  intro m
  induction m with
  | zero =>
    intro j hj hl
    have ej : j = lev := by omega
    subst ej
    refine mg_go [136, 171] 60 136 ms_3 ?_
    refine ⟨_, H.nv g3, fun _ => k, fun _ => ⟨_, H.t, _, H.od, 8, _, j, H.A8, mg_ixN (by omega), by omega, ?_⟩⟩
    rw [g4 j hlev]
    refine ⟨Or.inr H.T.is, mg_cv (hdp j hlev) (by omega) ?_⟩
    rw [hyes]
    exact ⟨fun _ => k, fun h => absurd h (by decide)⟩
  | succ m ih =>
    intro j hj hl
    refine mg_go [136, 171] 60 136 ms_3 ?_
    refine ⟨_, H.nv g3, fun h => ?_, fun _ => ?_⟩
    · have h : Int32.ofNat nv - Int32.ofInt 1 ≤ Int32.ofNat j := h
      rw [hnv 0 (by omega)] at h
      exact absurd h (mg_nle (by omega) (by omega))
    refine ⟨_, H.t, _, H.od, 8, _, j, H.A8, mg_ixN (by omega), by omega, ?_⟩
    rw [g4 j (by omega)]
    refine ⟨Or.inr H.T.is, mg_cv (hdp j (by omega)) (by omega) ?_⟩
    rw [hno j hl (by omega)]
    refine ⟨fun h => absurd (show ((if false = true then 1 else 0 : Int32)) = 0 from rfl) h, fun _ => ?_⟩
    have := ih (j + 1) (by omega) (by omega)
    rw [← mg_inc j] at this
    exact this
theorem c4 (d i : Nat) (H : kD K g) (hi : i < 628) (x y z : Int32) (G : mg_G) : mg_m K (d + 1) 4 [.ref g, .int (Int32.ofNat i), .int x, .int y, .int z] G (mg_n (mg_sI (mg_sI (mg_sI G (g + 3) i x) (g + 4) i y) (g + 5) i z)) := by
  refine mg_me [] 40 my_4 ms_4 (Nat.le_of_ble_eq_true rfl) ?_
  refine ⟨_, H.lv, 628, i, H.s3, mg_ixN (by omega), hi, _, H.lo, 628, i, H.s4, mg_ixN (by omega), hi, _, H.hi, 628, i, H.s5, mg_ixN (by omega), hi, ?_⟩
  exact ⟨rfl, rfl, rfl⟩
end CD
