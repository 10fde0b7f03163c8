/-! THE LAW: follow, told, isTrue -/
theorem tz_fb : ∀ v, v < 8 → ∀ x, x < 32 → Int32.ofInt 1 + (Int32.ofNat x >>> (Int32.ofNat v &&& 31) &&& Int32.ofInt 1) = Int32.ofNat (if x.testBit v then 2 else 1) := by decide +kernel
/-- what the law rests on: the class holds S, the tables are those of S, of n variables all -/
def lR (n : Nat) (G : mg_G) (S : a_S) : Prop := cT G S ∧ tR n G (sA S) (sU S) ∧ tt_n n ∧ (aV (sA S) = n ∧ 1 ≤ aF (sA S)) ∧ ∀ B, B ∈ sU S → aV B = n ∧ 1 ≤ aF B
theorem lR.go {n : Nat} {G G' : mg_G} {S : a_S} (h : lR n G S) (hT : cT G' S) (hF : cFr148 G G') : lR n G' S :=
  ⟨hT, h.2.1.fr hF (fun a ha => by show ¬ a < 148; omega), h.2.2⟩
theorem lR.W {n : Nat} {G : mg_G} {S : a_S} (h : lR n G S) : aW (sA S) := h.1.2.1
theorem lR.f12 {n : Nat} {G : mg_G} {S : a_S} (h : lR n G S) : aF (sA S) ≤ 12 := h.2.1.2.1
theorem lR.p {n : Nat} {G : mg_G} {S : a_S} (h : lR n G S) {f : Nat} (hf : f < aF (sA S)) : a_per n (aT (sA S) f) := by
  have := h.W.2.2.2.1 f hf
  rwa [h.2.2.2.1.1] at this
section TR
variable {scr : Nat × (Nat → Int32)} {t : List mg_S} {S : a_S} {n : Nat}
theorem t212w (d : Nat) {x : Nat} (hx : x < 32) {r0 : Int32} : ∀ (m k : Nat) (T : a_T) (G : mg_G), cT G S → aV (sA S) < 8 → a_nd (aN (sA S)) k T → aV (sA S) ≤ gL (aG (sA S)) k + m → mg_wp (mg_KC scr t) mc_212 (d + 20) 2 [some (.ref 0), some (.int r0), some (.int (Int32.ofNat x)), some (.int (Int32.ofNat k))] [] G (fun o q G' => o = .inl (some (.int (a_atI T x))) ∧ q ≤ 4 * m ∧ cT G' S ∧ cFr148 G G') := by
  have leaf : ∀ (m k : Nat) (T : a_T) (G : mg_G), cT G S → a_nd (aN (sA S)) k T → k < 2 → mg_wp (mg_KC scr t) mc_212 (d + 20) 2 [some (.ref 0), some (.int r0), some (.int (Int32.ofNat x)), some (.int (Int32.ofNat k))] [] G (fun o q G' => o = .inl (some (.int (a_atI T x))) ∧ q ≤ 4 * m ∧ cT G' S ∧ cFr148 G G') := by
    intro m k T G hT hn hk
    refine mg_go [] 20 2 ms_212 ?_
    rcases hn with ⟨rfl, rfl⟩ | ⟨rfl, rfl⟩ | ⟨h2, -⟩
    · refine ⟨fun _ => ⟨Or.inl rfl, ?_, Nat.zero_le _, hT, mg_fr.rf _ _⟩, fun h => absurd h (by decide)⟩
      have e : a_atI a_zero x = 0 := by unfold a_atI; rw [a_zero_at x (by omega)]; rfl
      rw [e]
      rfl
    · refine ⟨fun _ => ⟨Or.inl rfl, ?_, Nat.zero_le _, hT, mg_fr.rf _ _⟩, fun h => absurd h (by decide)⟩
      have e : a_atI a_one x = 1 := by unfold a_atI; rw [a_one_at x (by omega)]; rfl
      rw [e]
      rfl
    · omega
  intro m
  induction m with
  | zero =>
    intro k T G hT h8 hn hl
    by_cases h2 : k < 2
    · exact leaf 0 k T G hT hn h2
    · have := (th_st hT.2.1 (th_cl hT).1 hn (by omega)).2.1
      omega
  | succ m ih =>
    intro k T G hT h8 hn hl
    by_cases h2 : k < 2
    · exact leaf (m + 1) k T G hT hn h2
    · obtain ⟨s1, s2, s3, s4, s5, s6, s7, s8⟩ := th_st hT.2.1 (th_cl hT).1 hn (by omega)
      have hN := hT.2.1.gN
      have hv := hT.2.1.o8 _ s2
      have h1 := c114 (scr := scr) (t := t) d hT (Int32.ofNat k) (Int32.ofInt 0)
      rw [tq_nd0 s1 hN (by omega)] at h1
      refine mg_go [2] 40 2 ms_212 ?_
      refine ⟨fun h => absurd ((mg_leN (b := 1) (by omega) (by decide)).mp h) (by omega), fun _ => ?_⟩
      refine ⟨Or.inr ⟨_, rfl⟩, ?_⟩
      refine cA_go h1 (by omega) ?_
      intro q1 G1 hq1 hT1 hF1
      refine ⟨Or.inr ⟨_, rfl⟩, ?_⟩
      have key : ∀ (w : Nat) (b : Bool), (w = if b then gH (aG (sA S)) k else gO (aG (sA S)) k) → x.testBit (aD (sA S) (gL (aG (sA S)) k)) = b → ∀ (q2 : Nat) (G2 : mg_G), q2 ≤ 2 → cT G2 S → cFr148 G1 G2 → mg_wp (mg_KC scr t) mc_212 (d + 20) 2 [some (.ref 0), some (.int r0), some (.int (Int32.ofNat x)), some (.int (Int32.ofNat w))] [] G2 (fun o q G' => o = .inl (some (.int (a_atI T x))) ∧ q + q2 + q1 ≤ 4 * (m + 1) ∧ cT G' S ∧ cFr148 G G') := by
        intro w b ew hb q2 G2 hq2 hT2 hF2
        have e := th_ev T hv (show x < 256 by omega)
        rw [hb] at e
        have hw : a_nd (aN (sA S)) w (a_cf T (aD (sA S) (gL (aG (sA S)) k)) b) ∧ aV (sA S) ≤ gL (aG (sA S)) w + m := by
          subst ew
          cases b
          · exact ⟨s7, by show _ ≤ gL (aG (sA S)) (gO (aG (sA S)) k) + m; omega⟩
          · exact ⟨s8, by show _ ≤ gL (aG (sA S)) (gH (aG (sA S)) k) + m; omega⟩
        refine mg_wp_mono (ih w _ G2 hT2 h8 hw.1 hw.2) ?_
        rintro o q G3 ⟨rfl, g1, g2, g3⟩
        exact ⟨by rw [e], by omega, g2, (hF1.tr hF2).tr g3⟩
      cases hb : x.testBit (aD (sA S) (gL (aG (sA S)) k)) with
      | false =>
        have h9 := c114 (scr := scr) (t := t) d hT1 (Int32.ofNat k) (Int32.ofNat 1)
        rw [tq_nd1 s1 hN (by omega)] at h9
        have e9 : Int32.ofInt 1 + (Int32.ofNat x >>> (Int32.ofNat (aD (sA S) (gL (aG (sA S)) k)) &&& 31) &&& Int32.ofInt 1) = Int32.ofNat 1 := by
          rw [tz_fb _ hv x hx, hb]
          rfl
        rw [← e9] at h9
        exact cA_go h9 (by omega) (key _ false rfl hb)
      | true =>
        have h9 := c114 (scr := scr) (t := t) d hT1 (Int32.ofNat k) (Int32.ofNat 2)
        rw [tq_nd2 s1 hN (by omega)] at h9
        have e9 : Int32.ofInt 1 + (Int32.ofNat x >>> (Int32.ofNat (aD (sA S) (gL (aG (sA S)) k)) &&& 31) &&& Int32.ofInt 1) = Int32.ofNat 2 := by
          rw [tz_fb _ hv x hx, hb]
          rfl
        rw [← e9] at h9
        exact cA_go h9 (by omega) (key _ true rfl hb)
theorem t212 (d : Nat) {G : mg_G} (hT : cT G S) (h8 : aV (sA S) < 8) {x : Nat} (hx : x < 32) {k : Nat} {T : a_T} (hn : a_nd (aN (sA S)) k T) : mg_m (mg_KC scr t) (d + 21) 212 [.ref 0, .int (Int32.ofNat k), .int (Int32.ofNat x)] G (fun o q G' => o = .inl (some (.int (a_atI T x))) ∧ q ≤ 32 ∧ cT G' S ∧ cFr148 G G') := by
  refine mg_me [2] 20 my_212 ms_212 (Nat.le_of_ble_eq_true rfl) ?_
  refine mg_wp_mono (t212w d hx (aV (sA S)) k T G hT h8 hn (Nat.le_add_left _ _)) ?_
  rintro o q G' ⟨rfl, h1, h2, h3⟩
  exact ⟨rfl, by omega, h2, h3⟩
theorem tz_i : ∀ b : Bool, (if b then (1 : Int32) else 0).toInt64 = tz_1 b := by decide +kernel
theorem t208w (d : Nat) (hn : tt_n n) {f : Nat} : ∀ (m k : Nat) (G : mg_G) (y : Int64), k + m = 2 ^ n → cT G S → aV (sA S) = n → f < aF (sA S) → tz_B y (a_at (aT (sA S) f)) k → mg_wp (mg_KC scr t) mc_208 (d + 20) 5 [some (.ref 0), some (.int (Int32.ofNat f)), some (.int (Int32.ofNat n)), some (.long y), none, some (.int (Int32.ofNat k))] [] G (fun o q G' => o = .inl (some (.long (tt n (aT (sA S) f)))) ∧ q ≤ 2 * m ∧ cT G' S ∧ cFr148 G G') := by
  have hp := tt_pw hn
  intro m
  induction m with
  | zero =>
    intro k G y hk hT hv hf hy
    obtain rfl : k = 2 ^ n := by omega
    refine mg_go [] 40 5 ms_208 ?_
    exact ⟨fun _ => ⟨by rw [← tz_t hn hy], Nat.zero_le _, hT, mg_fr.rf _ _⟩, fun h => absurd h (tz_lt hn)⟩
  | succ m ih =>
    intro k G y hk hT hv hf hy
    have h1 := c115 (scr := scr) (t := t) d hT (Int32.ofNat f) (Int32.ofNat k)
    rw [tq_vl hf hT.f12 (by rw [hv]; omega) (by unfold tt_n at hn; omega)] at h1
    refine mg_go [5] 40 5 ms_208 ?_
    refine ⟨fun h => absurd h (tz_ge hn (show k < 2 ^ n by omega)), fun _ => ?_⟩
    refine ⟨Or.inr ⟨_, rfl⟩, ?_⟩
    refine cA_go h1 (by omega) ?_
    intro q1 G1 hq1 hT1 hF1
    refine mg_wp_mono (mg_wp_L (ih (k + 1) G1 _ (by omega) hT1 hv hf (tz_s hy (by omega))) (by rw [← mg_inc k, ← tz_i]; rfl)) ?_
    rintro o q G2 ⟨rfl, g1, g2, g3⟩
    exact ⟨rfl, by omega, g2, hF1.tr g3⟩
theorem t208 (d : Nat) (hn : tt_n n) {G : mg_G} (hT : cT G S) (hv : aV (sA S) = n) {f : Nat} (hf : f < aF (sA S)) : mg_m (mg_KC scr t) (d + 21) 208 [.ref 0, .int (Int32.ofNat f), .int (Int32.ofNat n)] G (fun o q G' => o = .inl (some (.long (tt n (aT (sA S) f)))) ∧ q ≤ 64 ∧ cT G' S ∧ cFr148 G G') := by
  have hp := tt_pw hn
  refine mg_me [5] 20 my_208 ms_208 (Nat.le_of_ble_eq_true rfl) ?_
  refine mg_wp_mono (t208w d hn (2 ^ n) 0 G 0 (Nat.zero_add _) hT hv hf (tz_0 _)) ?_
  rintro o q G' ⟨rfl, h1, h2, h3⟩
  exact ⟨rfl, by omega, h2, h3⟩
end TR
